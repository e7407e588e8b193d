/** Promises 7 to 9: the bounds of RUNS of an exported FUNCTION, a sentence at a time. */
public final class BoundsOfRunTest {
  private static final int I32 = 127;
  private static final int I64 = 126;

  public static void main(String[] args) {
    Due due = Due.begin();
    oneStepEach(due);
    noneOfEnds(due);
    firstWithinLoop(due);
    spent(due);
    unreachable(due);
    divisionByZero(due);
    leastByMinusOne(due);
    beyondMemory(due);
    beyondTable(due);
    noFunction(due);
    otherType(due);
    calls64(due);
    stays(due);
    grow(due);
    wrap(due);
    shifts(due);
    counts(due);
    tableLabels(due);
    due.end("BoundsOfRunTest");
  }

  private static FoldForge made(Due due, Built built) {
    FoldForge x = new FoldForge();
    due.is("module", Due.module(x, built.bytes()), 1);
    return x;
  }

  /** A FUNCTION that takes two of a TYPE and gives one of another (0: none), with a MEMORY and a LOCAL. */
  private static FoldForge code(Due due, int takes, int gives, int... instructions) {
    return made(due, new Built().type(gives, takes, takes).function(0, Due.bytes(1, 1, I32), Due.bytes(instructions))
        .memory(1).export("f", 0, 0));
  }

  private static void gives(Due due, FoldForge x, long a, long b, long wanted, int steps) {
    String what = "with " + a + ", " + b;
    x.argument(0, a);
    x.argument(1, b);
    due.is(what, x.run(0, steps), 0);
    due.is(what + " gives", x.outcome(0), wanted);
    due.is(what + " takes", x.outcome(1), steps);
    due.is(what + " meets", x.outcome(2), 0);
    if (steps > 0) {
      due.is(what + ", a STEP less", x.run(0, steps - 1), 1);
      due.is(what + ", a STEP less, gives", x.outcome(0), 0);
      due.is(what + ", a STEP less, takes", x.outcome(1), steps - 1);
      due.is(what + ", a STEP less, meets", x.outcome(2), 0);
    }
  }

  private static void traps(Due due, FoldForge x, long a, long b, int trap, int steps) {
    String what = "with " + a + ", " + b;
    x.argument(0, a);
    x.argument(1, b);
    due.is(what, x.run(0, steps), 2);
    due.is(what + " gives", x.outcome(0), 0);
    due.is(what + " takes", x.outcome(1), steps);
    due.is(what + " meets", x.outcome(2), trap);
    due.is(what + ", a STEP less", x.run(0, steps - 1), 1);
    due.is(what + ", a STEP less, meets", x.outcome(2), 0);
  }

  private static void oneStepEach(Due due) {
    due.sentence("STEPS: each INSTRUCTION that is come to takes one");
    int[][] one = {{1}, {2, 64, 11}, {3, 64, 11}, {2, 64, 12, 0, 11}, {65, 0, 26}, {66, 0, 26}, {32, 0, 33, 2},
        {65, 0, 4, 64, 1, 11}, {65, 1, 4, 64, 1, 11}, {65, 1, 4, 64, 1, 5, 1, 1, 11}, {65, 0, 4, 64, 1, 5, 1, 1, 11},
        {65, 0, 13, 0}, {2, 64, 65, 1, 13, 0, 11}, {2, 64, 65, 0, 14, 0, 0, 11}, {65, 1, 65, 2, 65, 3, 27, 26},
        {63, 0, 26}, {65, 0, 64, 0, 26}, {65, 0, 40, 0, 0, 26}, {65, 0, 65, 0, 54, 0, 0}, {65, 0, 34, 2, 26},
        {65, 1, 173, 167, 69, 26}};
    int[] steps = {1, 1, 1, 2, 2, 2, 2, 2, 3, 3, 4, 2, 3, 3, 5, 2, 3, 3, 3, 3, 5};
    for (int k = 0; k < one.length; k++) {
      gives(due, code(due, I32, 0, one[k]), 0, 0, 0, steps[k]);
    }
    gives(due, made(due, new Built().type(0).function(0, 16, 1, 1).function(0, 1, 1).export("f", 0, 0)), 0, 0, 0, 4);
    gives(due, made(due, new Built().type(0).function(0, 65, 0, 17, 0, 0).function(0, 15).table(1).element(65, 0, 1)
        .export("f", 0, 0)), 0, 0, 0, 3);
    gives(due, made(due, new Built().type(0).function(0, 35, 0, 36, 0).global(I64, 1, 66, 0).export("f", 0, 0)), 0, 0, 0,
        2);
  }

  private static void noneOfEnds(Due due) {
    due.sentence("(11 and 5 none;");
    gives(due, code(due, I32, 0), 0, 0, 0, 0);
    gives(due, code(due, I32, 0, 2, 64, 2, 64, 2, 64, 11, 11, 11), 0, 0, 0, 3);
    gives(due, code(due, I32, 0, 65, 1, 4, 64, 5, 1, 1, 1, 11), 0, 0, 0, 2);
    gives(due, code(due, I32, 0, 65, 0, 4, 64, 1, 1, 1, 5, 11), 0, 0, 0, 2);
    gives(due, made(due, new Built().type(0).function(0, 16, 1, 16, 1).function(0, 16, 2).function(0).export("f", 0, 0)),
        0, 0, 0, 4);
    int[] many = new int[63];
    for (int k = 0; k < 20; k++) {
      many[2 * k] = 2;
      many[2 * k + 1] = 64;
      many[40 + k] = 11;
    }
    many[60] = 1;
    many[61] = 1;
    many[62] = 1;
    gives(due, code(due, I32, 0, many), 0, 0, 0, 23);
  }

  private static void firstWithinLoop(Due due) {
    due.sentence("a br to a loop goes on with what is first within it)");
    FoldForge x = code(due, I32, I32, 3, 64, 32, 0, 65, 1, 107, 34, 0, 13, 0, 11, 32, 1);
    for (int n = 1; n <= 5; n++) {
      gives(due, x, n, 9, 9, 1 + 5 * n + 1);
    }
    FoldForge both = code(due, I32, I32, 3, 64, 3, 64, 32, 0, 65, 1, 107, 34, 0, 13, 1, 11, 11, 32, 1);
    for (int n = 1; n <= 3; n++) {
      gives(due, both, n, 9, 9, 1 + 6 * n + 1);
    }
    FoldForge endless = code(due, I32, 0, 3, 64, 12, 0, 11);
    due.is("endless", endless.run(0, 20000), 1);
    due.is("endless takes", endless.outcome(1), 20000);
    FoldForge nops = code(due, I32, 0, 1, 3, 64, 1, 1, 12, 0, 11);
    due.is("endless", nops.run(0, 8), 1);
    due.is("endless takes", nops.outcome(1), 8);
  }

  private static void spent(Due due) {
    due.sentence("where none is left the RUN is SPENT.");
    FoldForge x = made(due, new Built().type(0).function(0, 65, 1, 36, 0, 65, 2, 36, 0, 65, 3, 36, 0)
        .global(I32, 1, 65, 0).export("f", 0, 0));
    for (int steps = 0; steps <= 8; steps++) {
      FoldForge y = made(due, new Built().type(0).function(0, 65, 1, 36, 0, 65, 2, 36, 0, 65, 3, 36, 0)
          .global(I32, 1, 65, 0).export("f", 0, 0));
      due.is(steps + " STEPS", y.run(0, steps), steps < 6 ? 1 : 0);
      due.is(steps + " STEPS: taken", y.outcome(1), Math.min(steps, 6));
      due.is(steps + " STEPS: done", y.global(0), Math.min(steps, 6) / 2);
    }
    due.is("a RUN begins anew", x.run(0, 2), 1);
    due.is("a RUN begins anew", x.run(0, 4), 1);
    due.is("a RUN begins anew", x.global(0), 2);
    FoldForge empty = made(due, new Built().type(0).function(0).function(0, 1).export("f", 0, 0).export("g", 0, 1));
    due.is("none needed, none there", empty.run(0, 0), 0);
    due.is("one needed, none there", empty.run(1, 0), 1);
    due.is("one needed, none there: taken", empty.outcome(1), 0);
    due.is("one needed, one there", empty.run(1, 1), 0);
    byte[] nops = Raw.times(3900, 1);
    byte[] all = Due.join(Due.bytes(3, 64), nops, Due.bytes(12, 0, 11));
    FoldForge most = made(due, new Built().type(0).function(0, Due.bytes(0), all).export("f", 0, 0));
    due.is("20000 STEPS", most.run(0, 20000), 1);
    due.is("20000 STEPS: taken", most.outcome(1), 20000);
    FoldForge just = code(due, I32, I32, 3, 64, 32, 0, 65, 1, 107, 34, 0, 13, 0, 11, 1, 1, 1, 32, 1);
    gives(due, just, 3999, 5, 5, 20000);
    just.argument(0, 4000);
    due.is("20005 needed", just.run(0, 20000), 1);
  }

  private static void unreachable(Due due) {
    due.sentence("TRAPS: 1 unreachable,");
    traps(due, code(due, I32, 0, 0), 0, 0, 1, 1);
    traps(due, code(due, I32, I32, 1, 0, 65, 1), 0, 0, 1, 2);
    FoldForge x = code(due, I32, I32, 32, 0, 4, 64, 0, 11, 65, 3);
    traps(due, x, 1, 0, 1, 3);
    gives(due, x, 0, 0, 3, 3);
  }

  private static void divisionByZero(Due due) {
    due.sentence("2 a division by 0,");
    for (int op = 109; op <= 112; op++) {
      FoldForge x = code(due, I32, I32, 32, 0, 32, 1, op);
      boolean div = op < 111;
      for (int a : new int[] {0, 1, -1, Integer.MIN_VALUE, Integer.MAX_VALUE}) {
        traps(due, x, a, 0, 2, 3);
        traps(due, x, a, 1L << 32, 2, 3);
        gives(due, x, a, 1, div ? a : 0, 3);
      }
      gives(due, x, 5, -1, op == 109 ? -5 : div ? 0 : op == 111 ? 0 : 5, 3);
    }
    for (int op = 127; op <= 130; op++) {
      FoldForge x = code(due, I64, I64, 32, 0, 32, 1, op);
      boolean div = op < 129;
      for (long a : new long[] {0, 1, -1, Long.MIN_VALUE, Long.MAX_VALUE}) {
        traps(due, x, a, 0, 2, 3);
        gives(due, x, a, 1, div ? a : 0, 3);
      }
      gives(due, x, 5, 1L << 32, div ? 0 : 5, 3);
      gives(due, x, 5, -1, op == 127 ? -5 : div ? 0 : op == 129 ? 0 : 5, 3);
    }
  }

  private static void leastByMinusOne(Due due) {
    due.sentence("3 the least by -1 (div),");
    int least = Integer.MIN_VALUE;
    FoldForge div = code(due, I32, I32, 32, 0, 32, 1, 109);
    traps(due, div, least, -1, 3, 3);
    traps(due, div, 0x180000000L, 0xFFFFFFFFL, 3, 3);
    gives(due, div, least + 1, -1, Integer.MAX_VALUE, 3);
    gives(due, div, least, -2, 1 << 30, 3);
    gives(due, div, least, 1, least, 3);
    gives(due, code(due, I32, I32, 32, 0, 32, 1, 110), least, -1, 0, 3);
    gives(due, code(due, I32, I32, 32, 0, 32, 1, 111), least, -1, 0, 3);
    gives(due, code(due, I32, I32, 32, 0, 32, 1, 112), least, -1, least, 3);
    long least64 = Long.MIN_VALUE;
    FoldForge div64 = code(due, I64, I64, 32, 0, 32, 1, 127);
    traps(due, div64, least64, -1, 3, 3);
    gives(due, div64, least64 + 1, -1, Long.MAX_VALUE, 3);
    gives(due, div64, least64, -2, 1L << 62, 3);
    gives(due, div64, least, -1, 1L << 31, 3);
    gives(due, div64, least64, 0xFFFFFFFFL, -2147483648L, 3);
    gives(due, code(due, I64, I64, 32, 0, 32, 1, 128), least64, -1, 0, 3);
    gives(due, code(due, I64, I64, 32, 0, 32, 1, 129), least64, -1, 0, 3);
    gives(due, code(due, I64, I64, 32, 0, 32, 1, 130), least64, -1, least64, 3);
  }

  private static void beyondMemory(Due due) {
    due.sentence("4 beyond the MEMORY,");
    int[][] all = {{40, 4}, {41, 8}, {44, 1}, {45, 1}, {46, 2}, {47, 2}, {48, 1}, {49, 1}, {50, 2}, {51, 2}, {52, 4},
        {53, 4}, {54, 4}, {55, 8}, {58, 1}, {59, 2}, {60, 1}, {61, 2}, {62, 4}};
    for (int[] one : all) {
      boolean store = one[0] >= 54;
      boolean great = one[0] == 41 || one[0] >= 48 && one[0] <= 53 || one[0] == 55 || one[0] >= 60;
      int[] value = great ? new int[] {66, 0} : new int[] {65, 0};
      for (int pages = 0; pages <= 2; pages++) {
        for (int offset = 0; offset <= 3; offset++) {
          byte[] access = store ? Due.join(Due.bytes(32, 0), Due.bytes(value), Due.bytes(one[0], 0, offset))
              : Due.bytes(32, 0, one[0], 0, offset, 26);
          FoldForge x = made(due, new Built().type(0, I32, I32).function(0, Due.bytes(0), access).memory(pages)
              .export("f", 0, 0));
          int last = 65536 * pages - one[1] - offset;
          if (last >= 0) {
            gives(due, x, last, 0, 0, 3);
            gives(due, x, 0, 0, 0, 3);
          }
          int trapAt = store ? 3 : 2;
          traps(due, x, Math.max(0, last + 1), 0, 4, trapAt);
          traps(due, x, 65536 * pages, 0, 4, trapAt);
          traps(due, x, -1, 0, 4, trapAt);
          traps(due, x, -one[1] - offset, 0, 4, trapAt);
          traps(due, x, Integer.MIN_VALUE, 0, 4, trapAt);
        }
      }
      byte[] far = Due.bytes(0xFF, 0xFF, 0xFF, 0xFF, 15);
      byte[] access = store ? Due.join(Due.bytes(32, 0), Due.bytes(value), Due.bytes(one[0], 0), far)
          : Due.join(Due.bytes(32, 0, one[0], 0), far, Due.bytes(26));
      FoldForge x = made(due, new Built().type(0, I32, I32).function(0, Due.bytes(0), access).memory(2)
          .export("f", 0, 0));
      for (int at : new int[] {0, 1, 2, 8, -1}) {
        traps(due, x, at, 0, 4, store ? 3 : 2);
      }
    }
    // what is beyond with its last byte alone is not stored at all
    FoldForge x = code(due, I32, 0, 32, 0, 32, 1, 54, 0, 0);
    traps(due, x, 65533, -1, 4, 3);
    for (int i = 65533; i < 65536; i++) {
      due.is("byte " + i, x.memory(i), 0);
    }
    x.argument(0, 65532);
    due.is("the last four", x.run(0, 3), 0);
    due.is("byte 65535", x.memory(65535), 255);
  }

  /** Place 0: of the TYPE, 1: none, 2: of another TYPE, 3: none; the RUN gives what was called. */
  private static FoldForge table(Due due, int places) {
    Built built = new Built().type(I32, I32, I32).type(I32).type(I64)
        .function(0, 32, 0, 17, 1, 0).function(1, 65, 7).function(2, 66, 7).table(places).export("f", 0, 0)
        .element(65, 0, 1);
    return made(due, places > 2 ? built.element(65, 2, 2) : built);
  }

  private static void beyondTable(Due due) {
    due.sentence("5 beyond the TABLE,");
    for (int places : new int[] {1, 2, 3, 4, 100}) {
      FoldForge x = table(due, places);
      gives(due, x, 0, 0, 7, 3);
      gives(due, x, 1L << 32, 0, 7, 3);
      for (int i : new int[] {places, places + 1, 127, 65536, -1, Integer.MIN_VALUE, Integer.MAX_VALUE}) {
        traps(due, x, i, 0, 5, 2);
      }
    }
    FoldForge none = made(due, new Built().type(0, I32).function(0, 65, 0, 32, 0, 17, 0, 0).table(0, 9)
        .export("f", 0, 0));
    traps(due, none, 0, 0, 5, 3);
  }

  private static void noFunction(Due due) {
    due.sentence("6 a place without a FUNCTION,");
    FoldForge x = table(due, 4);
    traps(due, x, 1, 0, 6, 2);
    traps(due, x, 3, 0, 6, 2);
    gives(due, x, 0, 0, 7, 3);
    FoldForge most = table(due, 100);
    traps(due, most, 99, 0, 6, 2);
    traps(due, most, 100, 0, 5, 2);
  }

  private static void otherType(Due due) {
    due.sentence("7 one of another TYPE (VALUE TYPES are compared),");
    traps(due, table(due, 3), 2, 0, 7, 2);
    int[][] types = {{0}, {0, I32}, {0, I64}, {0, I32, I32}, {0, I32, I64}, {0, I64, I32}, {I32}, {I64}, {I32, I32},
        {I64, I32}};
    for (int a = 0; a < types.length; a++) {
      for (int b = 0; b < types.length; b++) {
        Built built = new Built().type(0, I32, I32);
        for (int[] type : new int[][] {types[a], types[b]}) {
          int[] takes = new int[type.length - 1];
          System.arraycopy(type, 1, takes, 0, takes.length);
          built.type(type[0], takes);
        }
        byte[] call = Due.bytes();
        for (int k = 1; k < types[b].length; k++) {
          call = Due.join(call, types[b][k] == I32 ? Due.bytes(65, 0) : Due.bytes(66, 0));
        }
        call = Due.join(call, Due.bytes(65, 0, 17, 2, 0), types[b][0] == 0 ? Due.bytes() : Due.bytes(26));
        built.function(0, Due.bytes(0), call).table(1).export("f", 0, 0).element(65, 0, 1);
        built.function(1, types[a][0] == 0 ? new int[] {1} : types[a][0] == I32 ? new int[] {65, 1} : new int[] {66, 1});
        FoldForge x = made(due, built);
        int steps = types[b].length + 1;
        if (a == b) {
          gives(due, x, 0, 0, 0, steps + 1 + (types[b][0] == 0 ? 0 : 1));
        } else {
          traps(due, x, 0, 0, 7, steps);
        }
      }
    }
    likeTypes(due);
  }

  /** TYPES that are alike, told in other bytes. */
  private static void likeTypes(Due due) {
    byte[] types = Due.bytes(4, 96, 1, 127, 1, 127, 96, 0x81, 0, 127, 0x81, 0x80, 0, 127, 96, 0x81, 0x80, 0x80, 0x80, 0, 127,
        1, 127, 96, 1, 127, 0x80, 0);
    byte[] call = Due.code(Due.bytes(0), Due.bytes(65, 7, 32, 0, 17, 0, 0));
    byte[] gives = Due.code(Due.bytes(0), Due.bytes(32, 0));
    byte[] module = Due.join(Due.header(), Due.section(1, types), Due.section(3, Due.bytes(5, 0, 0, 1, 2, 3)),
        Due.bytes(4, 4, 1, 112, 0, 4), Due.section(7, Due.vec(Due.export("f", 0, 0))),
        Due.section(9, Due.bytes(1, 0, 65, 0, 11, 4, 1, 2, 3, 4)),
        Due.section(10, Due.join(Due.bytes(5), call, gives, gives, gives, Due.code(1))));
    FoldForge x = new FoldForge();
    due.is("module", Due.module(x, module), 1);
    for (int i = 0; i < 3; i++) {
      gives(due, x, i, 0, 7, 4);
    }
    traps(due, x, 3, 0, 7, 3);
  }

  private static void calls64(Due due) {
    due.sentence("8 the 65th CALL in one another (the first FUNCTION counts).");
    // f(n) calls itself n times, one in another; so does g, by the TABLE
    Built built = new Built().type(I32, I32).table(1).element(65, 0, 1)
        .function(0, 32, 0, 4, I32, 32, 0, 65, 1, 107, 16, 0, 5, 65, 9, 11)
        .function(0, 32, 0, 4, I32, 32, 0, 65, 1, 107, 65, 0, 17, 0, 0, 5, 65, 9, 11)
        .export("f", 0, 0).export("g", 0, 1);
    FoldForge x = made(due, built);
    for (int n = 0; n <= 66; n++) {
      for (int i = 0; i < 2; i++) {
        x.argument(0, n);
        due.is(n + " within the first", x.run(i, 20000), n <= 63 ? 0 : 2);
        due.is(n + " within the first: gives", x.outcome(0), n <= 63 ? 9 : 0);
        due.is(n + " within the first: TRAP", x.outcome(2), n <= 63 ? 0 : 8);
        due.is(n + " within the first: STEPS", x.outcome(1), n <= 63 ? (6 + i) * n + 3 : (6 + i) * 64);
      }
    }
    // those that have ended do not count
    FoldForge many = made(due, new Built().type(I32, I32).type(0).function(0, 3, 64, 16, 1, 32, 0, 65, 1, 107, 34, 0, 13,
        0, 11, 65, 9).function(1).export("f", 0, 0));
    many.argument(0, 1000);
    due.is("1000 behind one another", many.run(0, 20000), 0);
    due.is("1000 behind one another give", many.outcome(0), 9);
  }

  private static void stays(Due due) {
    due.sentence("What was done to MEMORY and GLOBALS stays.");
    // i32 store, set of a GLOBAL, grow; then unreachable
    Built built = new Built().type(0).function(0, 65, 8, 65, 5, 54, 0, 0, 65, 6, 36, 0, 65, 1, 64, 0, 26, 0).memory(1)
        .global(I32, 1, 65, 0).export("f", 0, 0);
    for (int steps = 0; steps <= 9; steps++) {
      FoldForge x = made(due, built);
      due.is(steps + " STEPS", x.run(0, steps), steps < 9 ? 1 : 2);
      due.is(steps + " STEPS: MEMORY", x.memory(8), steps >= 3 ? 5 : 0);
      due.is(steps + " STEPS: GLOBAL", x.global(0), steps >= 5 ? 6 : 0);
      due.is(steps + " STEPS: pages", x.count(3), steps >= 7 ? 2 : 1);
    }
    // nothing else is changed: neither LOCALS nor what is on the row
    FoldForge sets = made(due, new Built().type(I32, I32, I32).function(0, 65, 5, 65, 6, 36, 0, 65, 7, 65, 9, 36, 1, 32, 0, 106,
        106, 32, 1, 106).global(I32, 1, 65, 0).global(I32, 1, 65, 0).export("f", 0, 0));
    gives(due, sets, 100, 1000, 1112, 11);
    due.is("GLOBAL 0", sets.global(0), 6);
    due.is("GLOBAL 1", sets.global(1), 9);
    FoldForge adds = made(due, new Built().type(I32, I32).function(0, 35, 0, 32, 0, 106, 36, 0, 35, 0)
        .global(I32, 1, 65, 0).export("f", 0, 0));
    for (int k = 1; k <= 5; k++) {
      adds.argument(0, 10);
      due.is("run", adds.run(0, 5), 0);
      due.is("from where the latest left it", adds.outcome(0), 10 * k);
    }
  }

  private static void grow(Due due) {
    due.sentence("memory grow: by n pages, if no more than most (without: 2) and 2: what there were; else -1.");
    for (int least = 0; least <= 2; least++) {
      for (int most = -1; most <= 2; most++) {
        if (most >= 0 && most < least) {
          continue;
        }
        for (int by : new int[] {0, 1, 2, 3, 65536, -1, -2, Integer.MIN_VALUE, Integer.MAX_VALUE}) {
          Built built = new Built().type(I32, I32).function(0, 32, 0, 64, 0).type(I32).function(1, 63, 0)
              .export("f", 0, 0).export("size", 0, 1);
          FoldForge x = made(due, most < 0 ? built.memory(least) : built.memory(least, most));
          int top = most < 0 ? 2 : most;
          boolean may = by >= 0 && by <= top - least;
          int pages = may ? least + by : least;
          String what = least + " to " + most + " by " + by;
          x.argument(0, by);
          due.is(what, x.run(0, 2), 0);
          due.is(what + " gives", x.outcome(0), may ? least : -1);
          due.is(what + ": pages", x.count(3), pages);
          due.is(what + ": size", x.run(1, 1), 0);
          due.is(what + ": size gives", x.outcome(0), pages);
          due.is(what + ": behind", x.memory(65536 * pages), -1);
          due.is(what + ": the last byte", x.memory(65536 * pages - 1), pages == 0 ? -1 : 0);
        }
      }
    }
  }

  private static void wrap(Due due) {
    due.sentence("As told by WebAssembly 1.0.");
    int least = Integer.MIN_VALUE;
    int most = Integer.MAX_VALUE;
    gives(due, code(due, I32, I32, 32, 0, 32, 1, 106), most, 1, least, 3);
    gives(due, code(due, I32, I32, 32, 0, 32, 1, 106), least, -1, most, 3);
    gives(due, code(due, I32, I32, 32, 0, 32, 1, 107), least, 1, most, 3);
    gives(due, code(due, I32, I32, 32, 0, 32, 1, 107), most, -1, least, 3);
    gives(due, code(due, I32, I32, 32, 0, 32, 1, 108), most, 2, -2, 3);
    gives(due, code(due, I32, I32, 32, 0, 32, 1, 108), least, -1, least, 3);
    gives(due, code(due, I32, I32, 32, 0, 32, 1, 108), 65536, 65536, 0, 3);
    gives(due, code(due, I64, I64, 32, 0, 32, 1, 124), Long.MAX_VALUE, 1, Long.MIN_VALUE, 3);
    gives(due, code(due, I64, I64, 32, 0, 32, 1, 125), Long.MIN_VALUE, 1, Long.MAX_VALUE, 3);
    gives(due, code(due, I64, I64, 32, 0, 32, 1, 126), Long.MIN_VALUE, -1, Long.MIN_VALUE, 3);
    gives(due, code(due, I64, I64, 32, 0, 32, 1, 124), most, 1, 1L << 31, 3);
    // without sign the least is above the greatest
    gives(due, code(due, I32, I32, 32, 0, 32, 1, 72), least, most, 1, 3);
    gives(due, code(due, I32, I32, 32, 0, 32, 1, 73), least, most, 0, 3);
    gives(due, code(due, I64, I32, 32, 0, 32, 1, 83), Long.MIN_VALUE, Long.MAX_VALUE, 1, 3);
    gives(due, code(due, I64, I32, 32, 0, 32, 1, 84), Long.MIN_VALUE, Long.MAX_VALUE, 0, 3);
    gives(due, code(due, I64, I32, 32, 0, 167), 0x1_8000_0000L, 0, least, 2);
    gives(due, code(due, I64, I32, 32, 0, 167), 0x1_7FFF_FFFFL, 0, most, 2);
    gives(due, code(due, I32, I64, 32, 0, 172), -1, 0, -1, 2);
    gives(due, code(due, I32, I64, 32, 0, 173), -1, 0, 4294967295L, 2);
    gives(due, code(due, I32, I64, 32, 0, 173), least, 0, 2147483648L, 2);
  }

  private static void shifts(Due due) {
    due.sentence("116 shl, 117, 118 shr, 119 rotl, 120 rotr; 121 to 138 of i64 likewise.");
    int a = 0x80000003;
    for (int by : new int[] {0, 1, 31, 32, 33, 63, 64, -1, -31, -32, Integer.MIN_VALUE}) {
      int low = by & 31;
      gives(due, code(due, I32, I32, 32, 0, 32, 1, 116), a, by, a << low, 3);
      gives(due, code(due, I32, I32, 32, 0, 32, 1, 117), a, by, a >> low, 3);
      gives(due, code(due, I32, I32, 32, 0, 32, 1, 118), a, by, a >>> low, 3);
      gives(due, code(due, I32, I32, 32, 0, 32, 1, 119), a, by, Integer.rotateLeft(a, low), 3);
      gives(due, code(due, I32, I32, 32, 0, 32, 1, 120), a, by, Integer.rotateRight(a, low), 3);
    }
    long b = 0x8000000000000003L;
    for (long by : new long[] {0, 1, 31, 32, 33, 63, 64, 65, 127, 128, -1, -63, -64, 1L << 32, Long.MIN_VALUE}) {
      int low = (int) (by & 63);
      gives(due, code(due, I64, I64, 32, 0, 32, 1, 134), b, by, b << low, 3);
      gives(due, code(due, I64, I64, 32, 0, 32, 1, 135), b, by, b >> low, 3);
      gives(due, code(due, I64, I64, 32, 0, 32, 1, 136), b, by, b >>> low, 3);
      gives(due, code(due, I64, I64, 32, 0, 32, 1, 137), b, by, Long.rotateLeft(b, low), 3);
      gives(due, code(due, I64, I64, 32, 0, 32, 1, 138), b, by, Long.rotateRight(b, low), 3);
    }
  }

  private static void counts(Due due) {
    due.sentence("i32: 103 clz, 104 ctz, 105 popcnt,");
    FoldForge[] small = new FoldForge[3];
    FoldForge[] great = new FoldForge[3];
    for (int k = 0; k < 3; k++) {
      small[k] = code(due, I32, I32, 32, 0, 103 + k);
      great[k] = code(due, I64, I64, 32, 0, 121 + k);
    }
    int[] none = {32, 32, 0};
    int[] full = {0, 0, 32};
    for (int k = 0; k < 3; k++) {
      gives(due, small[k], 0, 0, none[k], 2);
      gives(due, small[k], -1, 0, full[k], 2);
      gives(due, great[k], 0, 0, 2 * none[k], 2);
      gives(due, great[k], -1, 0, 2 * full[k], 2);
    }
    for (int bit = 0; bit < 64; bit++) {
      int[] wanted = {63 - bit, bit, 1};
      for (int k = 0; k < 3; k++) {
        gives(due, great[k], 1L << bit, 0, wanted[k], 2);
        if (bit < 32) {
          gives(due, small[k], 1L << bit, 0, k == 0 ? 31 - bit : wanted[k], 2);
        }
      }
    }
  }

  private static void tableLabels(Due due) {
    due.sentence("14 br_table VEC of u32, u32.");
    for (int labels = 0; labels <= 3; labels++) {
      byte[] table = Due.join(Due.bytes(2, 64, 2, 64, 2, 64, 2, 64, 32, 0, 14, labels), new byte[labels], Due.bytes(3, 11));
      for (int k = 0; k < labels; k++) {
        table[12 + k] = (byte) k;
      }
      byte[] code = Due.join(table, Due.bytes(65, 10, 15, 11, 65, 11, 15, 11, 65, 12, 15, 11, 65, 13, 15));
      FoldForge x = made(due, new Built().type(I32, I32, I32).function(0, Due.bytes(0), code).export("f", 0, 0));
      for (int i : new int[] {0, 1, 2, 3, 4, 127, -1, Integer.MIN_VALUE, Integer.MAX_VALUE}) {
        boolean one = i >= 0 && i < labels;
        gives(due, x, i, 0, one ? 10 + i : 13, 8);
      }
    }
    byte[] sixty = Due.join(Due.bytes(2, 64, 2, 64, 32, 0, 14, 60), new byte[60], Due.bytes(1, 11, 65, 1, 15, 11, 65, 2));
    sixty[7 + 60] = 1;
    FoldForge x = made(due, new Built().type(I32, I32, I32).function(0, Due.bytes(0), sixty).export("f", 0, 0));
    gives(due, x, 58, 0, 1, 6);
    gives(due, x, 59, 0, 2, 5);
    gives(due, x, 60, 0, 2, 5);
  }
}
