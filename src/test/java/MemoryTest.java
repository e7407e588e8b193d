/** Promises 8, 9 and 11: loads, stores, the MEMORY's size and how it grows. */
public final class MemoryTest {
  private static final int I32 = 127;
  private static final int I64 = 126;
  private static final long BYTES = 0x8899AABBCCDDEEFFL;

  public static void main(String[] args) {
    Due due = Due.begin();
    stores(due);
    loads(due);
    ends(due);
    offsets(due);
    grow(due);
    stays(due);
    due.end("MemoryTest");
  }

  private static FoldForge made(Due due, Built built) {
    FoldForge x = new FoldForge();
    due.is("module", Due.module(x, built.bytes()), 1);
    return x;
  }

  private static FoldForge of(Due due, int op, int type, int... offset) {
    byte[] memarg = Due.join(Due.bytes(op, 0), offset.length == 0 ? Due.bytes(0) : Due.bytes(offset));
    boolean store = op >= 54;
    byte[] code = Due.join(Due.bytes(32, 0), store ? Due.bytes(32, 1) : Due.bytes(), memarg);
    Built built = new Built().type(store ? 0 : type, I32, type).type(0, I32, I64)
        .function(0, Due.bytes(0), code).function(1, 32, 0, 32, 1, 55, 0, 0).memory(1)
        .export("f", 0, 0).export("fill", 0, 1);
    return made(due, built);
  }

  private static int run(FoldForge x, int export, long address, long value) {
    x.argument(0, address);
    x.argument(1, value);
    return x.run(export, 100);
  }

  private static void stores(Due due) {
    int[][] all = {{54, I32, 4}, {55, I64, 8}, {58, I32, 1}, {59, I32, 2}, {60, I64, 1}, {61, I64, 2}, {62, I64, 4}};
    for (int[] one : all) {
      for (int at : new int[] {0, 1, 3, 5, 7, 8, 1000, 65536 - one[2]}) {
        FoldForge x = of(due, one[0], one[1]);
        String what = "store " + one[0] + " at " + at;
        due.is(what, run(x, 0, at, BYTES), 0);
        due.is(what + ": gives", x.outcome(0), 0);
        due.is(what + ": STEPS", x.outcome(1), 3);
        for (int k = 0; k < one[2]; k++) {
          due.is(what + ": byte " + k, x.memory(at + k), (int) (BYTES >>> 8 * k) & 255);
        }
        due.is(what + ": ahead", x.memory(at - 1), at == 0 ? -1 : 0);
        due.is(what + ": behind", x.memory(at + one[2]), at + one[2] == 65536 ? -1 : 0);
        due.is(what + ": once more", run(x, 0, at, 0), 0);
        due.is(what + ": 0 again", x.memory(at), 0);
      }
    }
  }

  private static void loads(Due due) {
    int[][] all = {{40, I32, 4, 1}, {41, I64, 8, 1}, {44, I32, 1, 1}, {45, I32, 1, 0}, {46, I32, 2, 1},
        {47, I32, 2, 0}, {48, I64, 1, 1}, {49, I64, 1, 0}, {50, I64, 2, 1}, {51, I64, 2, 0}, {52, I64, 4, 1},
        {53, I64, 4, 0}};
    for (int[] one : all) {
      FoldForge x = of(due, one[0], one[1]);
      for (long bytes : new long[] {BYTES, ~BYTES, 0x7F7F7F7F7F7F7F7FL, -1}) {
        for (int at : new int[] {0, 3, 8, 13, 65520}) {
          due.is("fill", run(x, 1, at, bytes), 0);
          int above = 64 - 8 * one[2];
          long wanted = one[3] == 1 ? bytes << above >> above : bytes << above >>> above;
          String what = "load " + one[0] + " at " + at;
          due.is(what, run(x, 0, at, 0), 0);
          due.is(what, x.outcome(0), wanted);
          due.is(what + ": STEPS", x.outcome(1), 2);
        }
      }
    }
  }

  /** Up to the last byte; beyond it a TRAP, and nothing is stored. */
  private static void ends(Due due) {
    int[][] all = {{40, I32, 4}, {41, I64, 8}, {44, I32, 1}, {45, I32, 1}, {46, I32, 2}, {47, I32, 2}, {48, I64, 1},
        {49, I64, 1}, {50, I64, 2}, {51, I64, 2}, {52, I64, 4}, {53, I64, 4}, {54, I32, 4}, {55, I64, 8},
        {58, I32, 1}, {59, I32, 2}, {60, I64, 1}, {61, I64, 2}, {62, I64, 4}};
    for (int[] one : all) {
      FoldForge x = of(due, one[0], one[1]);
      due.is("the last of " + one[0], run(x, 0, 65536 - one[2], -1), 0);
      due.is("clear", run(x, 1, 65528, 0), 0);
      for (long at : new long[] {65537 - one[2], 65536, 131072, -1, -8, Integer.MIN_VALUE, Integer.MAX_VALUE}) {
        due.is(one[0] + " at " + at, run(x, 0, at, -1), 2);
        due.is(one[0] + " at " + at + ": TRAP", x.outcome(2), 4);
        due.is(one[0] + " at " + at + ": gives", x.outcome(0), 0);
        due.is(one[0] + " at " + at + ": nothing stored", x.memory(65535), 0);
      }
    }
  }

  private static void offsets(Due due) {
    FoldForge x = of(due, 58, I32, 5);
    due.is("store", run(x, 0, 10, 77), 0);
    due.is("at 15", x.memory(15), 77);
    due.is("store", run(x, 0, 65530, 78), 0);
    due.is("the last", x.memory(65535), 78);
    due.is("store", run(x, 0, 65531, 78), 2);
    due.is("TRAP", x.outcome(2), 4);
    due.is("no wrap", run(x, 0, -5, 78), 2);
    due.is("no wrap", x.memory(0), 0);
    FoldForge far = of(due, 58, I32, 0xFF, 0xFF, 0xFF, 0xFF, 15);
    due.is("far", run(far, 0, 1, 78), 2);
    due.is("far", run(far, 0, -1, 78), 2);
    FoldForge five = of(due, 58, I32, 0xFF, 0xFF, 3);
    due.is("65535", run(five, 0, 0, 79), 0);
    due.is("65535", five.memory(65535), 79);
    due.is("65536", run(five, 0, 1, 79), 2);
  }

  private static FoldForge growing(Due due, Built built) {
    return made(due, built.type(I32, I32).type(I32).function(0, 32, 0, 64, 0).function(1, 63, 0)
        .export("grow", 0, 0).export("size", 0, 1));
  }

  private static void grows(Due due, FoldForge x, long by, int gives, int pages) {
    String what = "grow by " + by;
    due.is(what, run(x, 0, by, 0), 0);
    due.is(what + ": gives", x.outcome(0), gives);
    due.is(what + ": STEPS", x.outcome(1), 2);
    due.is(what + ": count(3)", x.count(3), pages);
    due.is(what + ": size", x.run(1, 1), 0);
    due.is(what + ": size gives", x.outcome(0), pages);
    due.is(what + ": the last byte", x.memory(pages * 65536 - 1), pages == 0 ? -1 : 0);
    due.is(what + ": behind", x.memory(pages * 65536), -1);
  }

  private static void grow(Due due) {
    FoldForge none = growing(due, new Built().memory(0));
    grows(due, none, 0, 0, 0);
    grows(due, none, 3, -1, 0);
    grows(due, none, 1, 0, 1);
    grows(due, none, 2, -1, 1);
    grows(due, none, 1, 1, 2);
    grows(due, none, 1, -1, 2);
    grows(due, none, 0, 2, 2);
    grows(due, none, -1, -1, 2);
    grows(due, none, -2, -1, 2);
    grows(due, none, Integer.MIN_VALUE, -1, 2);
    FoldForge two = growing(due, new Built().memory(0, 2));
    grows(due, two, 2, 0, 2);
    grows(due, two, Integer.MAX_VALUE, -1, 2);
    FoldForge one = growing(due, new Built().memory(0, 1));
    grows(due, one, 2, -1, 0);
    grows(due, one, 1, 0, 1);
    grows(due, one, 1, -1, 1);
    FoldForge most = growing(due, new Built().memory(1, 1));
    grows(due, most, 1, -1, 1);
    grows(due, most, 0, 1, 1);
    FoldForge zero = growing(due, new Built().memory(0, 0));
    grows(due, zero, 1, -1, 0);
    grows(due, zero, 0, 0, 0);
  }

  private static void stays(Due due) {
    Built built = new Built().type(0, I32, I32).type(0).function(0, 32, 0, 32, 1, 54, 0, 0).function(1, 65, 1, 64, 0, 0)
        .memory(1).export("store", 0, 0).export("grow", 0, 1);
    FoldForge x = made(due, built);
    due.is("beyond", run(x, 0, 65536, 9), 2);
    due.is("grows, then a TRAP", x.run(1, 9), 2);
    due.is("TRAP", x.outcome(2), 1);
    due.is("pages", x.count(3), 2);
    due.is("there now", run(x, 0, 65536, 9), 0);
    due.is("there now", x.memory(65536), 9);
    due.is("over the edge", run(x, 0, 65534, 0x04030201), 0);
    for (int k = 0; k < 4; k++) {
      due.is("over the edge", x.memory(65534 + k), k + 1);
    }
    due.is("the last", run(x, 0, 131068, -1), 0);
    due.is("the last", x.memory(131071), 255);
    due.is("beyond", run(x, 0, 131069, -1), 2);
    due.is("a new one", Due.module(x, built.bytes()), 1);
    due.is("pages", x.count(3), 1);
    due.is("MEMORY", x.memory(65535), 0);
    due.is("grows, then a TRAP", x.run(1, 9), 2);
    due.is("the new page is 0", x.memory(65536), 0);
    due.is("the new page is 0", x.memory(131071), 0);
  }
}
