/** Promises 5 to 12 and 15: the bounds of what is asked, and calls that are refused, a sentence at a time. */
public final class BoundsOfFaceTest {
  private static final int I32 = 127;
  private static final int I64 = 126;
  private static final int[] FAR = {-100, 100, 1 << 16, Integer.MIN_VALUE, Integer.MIN_VALUE + 1, Integer.MAX_VALUE};

  public static void main(String[] args) {
    Due due = Due.begin();
    count(due);
    countNow(due);
    exports(due);
    exportOfFunction(due);
    argument(due);
    argumentsAtFirst(due);
    lowBits(due);
    runOfWhat(due);
    runSteps(due);
    runAnswers(due);
    outcome(due);
    outcomeOfLatest(due);
    outcomeBefore(due);
    global(due);
    memory(due);
    table(due);
    spent(due);
    due.end("BoundsOfFaceTest");
  }

  private static FoldForge made(Due due, Built built) {
    FoldForge x = new FoldForge();
    due.is("module", Due.module(x, built.bytes()), 1);
    return x;
  }

  private static void count(Due due) {
    due.sentence("0 TYPES, 1 FUNCTIONS, 2 places of the TABLE (-1 without), 3 pages of the MEMORY now (-1 without), 4"
        + " GLOBALS, 5 EXPORTS; -1 without a MODULE, another what.");
    FoldForge x = new FoldForge();
    for (int what = -2; what <= 7; what++) {
      due.is("without a MODULE: " + what, x.count(what), -1);
    }
    due.is("INVALID", Due.module(x, new Built().memory(1).memory(1).bytes()), -3);
    due.is("without a MODULE still", x.count(0), -1);
    int[] empty = {0, 0, -1, -1, 0, 0};
    int[] none = {0, 0, 0, 0, 0, 0};
    int[] unlike = {1, 2, 3, 1, 4, 5};
    Built all = new Built().type(0).function(0).function(0).table(3, 7).memory(1, 2);
    for (int k = 0; k < 4; k++) {
      all.global(I32, 0, 65, 0);
    }
    for (int k = 0; k < 5; k++) {
      all.export("e" + k, 0, 0);
    }
    FoldForge[] modules = {made(due, new Built()), made(due, new Built().table(0).memory(0)), made(due, all)};
    int[][] wanted = {empty, none, unlike};
    for (int k = 0; k < 3; k++) {
      for (int what = 0; what <= 5; what++) {
        due.is("count(" + what + ")", modules[k].count(what), wanted[k][what]);
      }
      due.is("count(-1)", modules[k].count(-1), -1);
      due.is("count(6)", modules[k].count(6), -1);
      for (int what : FAR) {
        due.is("count(" + what + ")", modules[k].count(what), -1);
      }
    }
  }

  private static void countNow(Due due) {
    due.sentence("3 pages of the MEMORY now");
    FoldForge x = made(due, new Built().type(I32, I32).function(0, 32, 0, 64, 0).memory(0, 2).export("f", 0, 0));
    int[] by = {0, 3, 1, 2, 1, 1, -1};
    int[] now = {0, 0, 1, 1, 2, 2, 2};
    for (int k = 0; k < by.length; k++) {
      x.argument(0, by[k]);
      due.is("run", x.run(0, 2), 0);
      due.is("by " + by[k], x.count(3), now[k]);
    }
  }

  private static void exports(Due due) {
    due.sentence("Of EXPORT i: 0 its kind, 1 its number, 2 bytes of its name, 3 + k byte k of it;");
    String[] names = {"", "a", "ab\u00FF", "\u0000"};
    Built built = new Built().type(0).function(0).table(1).memory(1).global(I32, 0, 65, 0).global(I32, 0, 65, 0);
    int[] numbers = {0, 0, 0, 1};
    for (int k = 0; k < 4; k++) {
      built.export(names[k], k, numbers[k]);
    }
    FoldForge x = made(due, built);
    for (int i = 0; i < 4; i++) {
      due.is("kind of " + i, x.export(i, 0), i);
      due.is("number of " + i, x.export(i, 1), numbers[i]);
      due.is("bytes of " + i, x.export(i, 2), names[i].length());
      for (int k = 0; k < 6; k++) {
        int wanted = k < names[i].length() ? names[i].charAt(k) : -9;
        due.is("byte " + k + " of " + i, x.export(i, 3 + k), wanted);
      }
      due.is("what -3", x.export(i, -3), -9);
      for (int what : FAR) {
        due.is("what " + what, x.export(i, what), -9);
      }
    }
    for (int i : new int[] {-1, 4, 5, -100, 60, 100, Integer.MIN_VALUE, Integer.MAX_VALUE}) {
      for (int what = -3; what <= 4; what++) {
        due.is("EXPORT " + i + ", " + what, x.export(i, what), -9);
      }
    }
    FoldForge none = made(due, new Built());
    due.is("of a MODULE without EXPORTS", none.export(0, 0), -9);
    due.is("without a MODULE", new FoldForge().export(0, 0), -9);
  }

  private static void exportOfFunction(Due due) {
    due.sentence("of a FUNCTION -1: how many ARGUMENTS, -2 what it gives (0 nothing, 127, 126). -9: there is none such.");
    int[] sixty = new int[60];
    java.util.Arrays.fill(sixty, I64);
    Built built = new Built().type(0).type(I32, I64).type(I64, I32, I32).type(0, sixty).function(3).function(2, 66, 0)
        .function(1, 65, 0).function(0).table(1).memory(1).global(I32, 0, 65, 0);
    for (int k = 0; k < 4; k++) {
      built.export("f" + k, 0, k);
    }
    FoldForge x = made(due, built.export("t", 1, 0).export("m", 2, 0).export("g", 3, 0));
    int[] many = {60, 2, 1, 0, -9, -9, -9};
    int[] gives = {0, I64, I32, 0, -9, -9, -9};
    for (int i = 0; i < 7; i++) {
      due.is("ARGUMENTS of " + i, x.export(i, -1), many[i]);
      due.is("gives " + i, x.export(i, -2), gives[i]);
      due.is("none such " + i, x.export(i, -3), -9);
    }
    due.is("no EXPORT", x.export(7, -1), -9);
    due.is("no EXPORT", x.export(7, -2), -9);
  }

  /** A FUNCTION that takes eight i64 and gives the k-th. */
  private static FoldForge eight(Due due) {
    Built built = new Built().type(I64, I64, I64, I64, I64, I64, I64, I64, I64);
    for (int k = 0; k < 8; k++) {
      built.function(0, 32, k).export("f" + k, 0, k);
    }
    return made(due, built);
  }

  private static void are(Due due, FoldForge x, long... wanted) {
    for (int k = 0; k < 8; k++) {
      due.is("run", x.run(k, 1), 0);
      due.is("ARGUMENT " + k, x.outcome(0), wanted[k]);
    }
  }

  private static void argument(Due due) {
    due.sentence("ARGUMENT k (0 .. 7) of RUNS that come: 1; 0 if there is none such.");
    FoldForge x = eight(due);
    for (int k = 0; k < 8; k++) {
      due.is("argument(" + k + ")", x.argument(k, 10 + k), 1);
    }
    are(due, x, 10, 11, 12, 13, 14, 15, 16, 17);
    for (int k : new int[] {-1, 8, 9, -8, Integer.MIN_VALUE, Integer.MAX_VALUE}) {
      due.is("argument(" + k + ")", x.argument(k, 99), 0);
    }
    are(due, x, 10, 11, 12, 13, 14, 15, 16, 17);
    due.is("argument(0)", x.argument(0, Long.MAX_VALUE), 1);
    due.is("argument(7)", x.argument(7, Long.MIN_VALUE), 1);
    are(due, x, Long.MAX_VALUE, 11, 12, 13, 14, 15, 16, Long.MIN_VALUE);
    // they stay for each RUN and each MODULE that comes
    due.is("another MODULE", Due.module(x, Due.one(I64, Due.takes(I64), Due.bytes(32, 0))), 1);
    due.is("run", x.run(0, 1), 0);
    due.is("ARGUMENT 0", x.outcome(0), Long.MAX_VALUE);
    FoldForge before = new FoldForge();
    due.is("without a MODULE", before.argument(7, 5), 1);
    due.is("without a MODULE, none such", before.argument(8, 5), 0);
  }

  private static void argumentsAtFirst(Due due) {
    due.sentence("(At first 0.)");
    are(due, eight(due), 0, 0, 0, 0, 0, 0, 0, 0);
    FoldForge x = new FoldForge();
    due.is("program", Due.program(x, "fun f(a: int, b: int, c: int, d: int): int = a + b + c + d;"), 1);
    due.is("call", x.call(0), 0);
    due.is("gives", x.outcome(0), 0);
  }

  private static void lowBits(Due due) {
    due.sentence("EXPORT i, a FUNCTION, is RUN with ARGUMENTS as told (of an i32 the low bits), and so many STEPS");
    FoldForge x = made(due, new Built().type(I32, I32, I64, I32).type(I64, I32, I64, I32).function(0, 32, 0)
        .function(1, 32, 1).function(0, 32, 2).export("a", 0, 0).export("b", 0, 1).export("c", 0, 2));
    long[] all = {0x1_0000_0000L, 0x7FFFFFFFL, 0x80000000L, -1L, Long.MIN_VALUE, Long.MAX_VALUE, 0xFFFF_FFFF_8000_0000L};
    for (long v : all) {
      for (int k = 0; k < 3; k++) {
        x.argument(k, v);
        due.is("run", x.run(k, 1), 0);
        due.is("ARGUMENT " + k + " of " + v, x.outcome(0), k == 1 ? v : (int) v);
      }
    }
  }

  private static void runOfWhat(Due due) {
    due.sentence("-1 no such EXPORT, or it is no FUNCTION, or has more than 8 ARGUMENTS;");
    Built built = new Built().table(1).memory(1).global(I32, 0, 65, 0);
    int[] many = {0, 7, 8, 9, 10, 60};
    for (int k = 0; k < many.length; k++) {
      int[] takes = new int[many[k]];
      java.util.Arrays.fill(takes, I32);
      built.type(I32, takes).function(k, 65, k).export("f" + k, 0, k);
    }
    FoldForge x = made(due, built.export("t", 1, 0).export("m", 2, 0).export("g", 3, 0));
    for (int i = 0; i < 9; i++) {
      due.is("run(" + i + ")", x.run(i, 1), i < 3 ? 0 : -1);
    }
    for (int i : new int[] {-1, 9, 10, -9, 60, Integer.MIN_VALUE, Integer.MAX_VALUE}) {
      due.is("run(" + i + ")", x.run(i, 1), -1);
      due.is("run(" + i + ", -1)", x.run(i, -1), -1);
    }
    due.is("of a MODULE without EXPORTS", made(due, new Built()).run(0, 1), -1);
    due.is("without a MODULE", new FoldForge().run(0, 1), -1);
    due.is("a FUNCTION that is no EXPORT", made(due, new Built().type(0).function(0)).run(0, 1), -1);
  }

  private static void runSteps(Due due) {
    due.sentence("-2 steps not 0 .. 20000.");
    FoldForge x = made(due, new Built().type(I32).function(0, 65, 7).memory(0).export("f", 0, 0).export("m", 2, 0));
    due.is("0", x.run(0, 0), 1);
    due.is("1", x.run(0, 1), 0);
    due.is("20000", x.run(0, 20000), 0);
    for (int steps : new int[] {-1, 20001, -20000, 65536, Integer.MIN_VALUE, Integer.MAX_VALUE}) {
      due.is(steps + " STEPS", x.run(0, steps), -2);
      due.is(steps + " STEPS of no FUNCTION", x.run(1, steps), -1);
    }
    due.is("what was refused is no RUN", x.outcome(0), 7);
    due.is("what was refused takes no STEPS", x.outcome(1), 1);
  }

  private static void runAnswers(Due due) {
    due.sentence("0 it ended, 1 SPENT, 2 a TRAP.");
    FoldForge x = made(due, new Built().type(I32, I32).function(0, 65, 1, 32, 0, 110).export("f", 0, 0));
    x.argument(0, 1);
    due.is("2 STEPS", x.run(0, 2), 1);
    due.is("3 STEPS", x.run(0, 3), 0);
    x.argument(0, 0);
    due.is("2 STEPS", x.run(0, 2), 1);
    due.is("3 STEPS", x.run(0, 3), 2);
  }

  private static void outcome(Due due) {
    due.sentence("0 what it gave (an i32 with its sign; 0 for nothing), 1 STEPS that were taken (of run()), 2 the TRAP"
        + " (NAMED ERROR) or 0.");
    FoldForge x = made(due, new Built().type(I32, I32).type(I64, I32).type(0, I32).function(0, 65, 0x7F)
        .function(1, 66, 0x7F).function(2, 1).function(0, 65, 0x80, 0x80, 0x80, 0x80, 0x78)
        .function(1, 65, 0x7F, 173).function(2, 0).function(0, 65, 1, 32, 0, 109)
        .export("a", 0, 0).export("b", 0, 1).export("c", 0, 2).export("d", 0, 3).export("e", 0, 4).export("f", 0, 5)
        .export("g", 0, 6));
    long[] gave = {-1, -1, 0, Integer.MIN_VALUE, 4294967295L, 0, 0};
    int[] steps = {1, 1, 1, 1, 2, 1, 3};
    int[] traps = {0, 0, 0, 0, 0, 1, 2};
    for (int i = 0; i < 7; i++) {
      due.is("run(" + i + ")", x.run(i, 20000), traps[i] == 0 ? 0 : 2);
      due.is("outcome(0) of " + i, x.outcome(0), gave[i]);
      due.is("outcome(1) of " + i, x.outcome(1), steps[i]);
      due.is("outcome(2) of " + i, x.outcome(2), traps[i]);
    }
    due.is("SPENT", x.run(6, 2), 1);
    due.is("SPENT: outcome(0)", x.outcome(0), 0);
    due.is("SPENT: outcome(1)", x.outcome(1), 2);
    due.is("SPENT: outcome(2)", x.outcome(2), 0);
  }

  private static void outcomeOfLatest(Due due) {
    due.sentence("Of the latest run() or call() that answered 0 or more:");
    FoldForge x = made(due, new Built().type(I32, I32).type(I32).function(0, 65, 20, 32, 0, 109).function(1, 65, 5)
        .export("f", 0, 0).export("g", 0, 1));
    due.is("program", Due.program(x, "fun f(a: int): int = 30 / a; fun g(a: list): int = 1;"), 2);
    x.argument(0, 2);
    due.is("run", x.run(0, 3), 0);
    due.is("run: gave", x.outcome(0), 10);
    due.is("run: STEPS", x.outcome(1), 3);
    due.is("refused", x.run(2, 3), -1);
    due.is("refused", x.run(0, 20001), -2);
    due.is("refused", x.call(1), -1);
    due.is("refused", x.call(2), -1);
    due.is("refused: gave", x.outcome(0), 10);
    due.is("refused: STEPS", x.outcome(1), 3);
    due.is("call", x.call(0), 0);
    due.is("call: gave", x.outcome(0), 15);
    due.is("call: STEPS", x.outcome(1), 0);
    due.is("run", x.run(1, 3), 0);
    due.is("run: gave", x.outcome(0), 5);
    due.is("run: STEPS", x.outcome(1), 1);
    x.argument(0, 0);
    due.is("a TRAP", x.run(0, 3), 2);
    due.is("a TRAP: gave", x.outcome(0), 0);
    due.is("a TRAP: STEPS", x.outcome(1), 3);
    due.is("a TRAP: which", x.outcome(2), 2);
    due.is("an ERROR", x.call(0), 2);
    due.is("an ERROR: gave", x.outcome(0), 0);
    due.is("an ERROR: STEPS", x.outcome(1), 0);
    due.is("an ERROR: which", x.outcome(2), 1);
    due.is("SPENT", x.run(0, 2), 1);
    due.is("SPENT: which", x.outcome(2), 0);
    due.is("SPENT: STEPS", x.outcome(1), 2);
    // neither a MODULE nor a PROGRAM that comes is a RUN
    due.is("module", Due.module(x, Due.header()), 1);
    due.is("program", Due.program(x, "fun f(a: int): int = 1;"), 1);
    due.is("SPENT still: STEPS", x.outcome(1), 2);
  }

  private static void outcomeBefore(Due due) {
    due.sentence("0 for another what, and before.");
    FoldForge x = made(due, new Built().type(I32).function(0, 65, 5, 0).export("f", 0, 0));
    due.is("program", Due.program(x, "fun f(a: int): int = match cons(a, nil) with nil -> 0 | h, t -> 1 / h;"), 1);
    for (int what = -2; what <= 4; what++) {
      due.is("before: outcome(" + what + ")", x.outcome(what), 0);
      due.is("before: spent(" + what + ")", x.spent(what), 0);
    }
    due.is("refused", x.run(0, -1), -2);
    due.is("refused", x.call(1), -1);
    for (int what = -2; what <= 4; what++) {
      due.is("before: outcome(" + what + ")", x.outcome(what), 0);
      due.is("before: spent(" + what + ")", x.spent(what), 0);
    }
    due.is("run", x.run(0, 9), 2);
    due.is("call", x.call(0), 2);
    for (int what : new int[] {-1, 3, 4, -100, Integer.MIN_VALUE, Integer.MAX_VALUE}) {
      due.is("outcome(" + what + ")", x.outcome(what), 0);
      due.is("spent(" + what + ")", x.spent(what), 0);
    }
  }

  private static void global(Due due) {
    due.sentence("GLOBAL i of the MODULE, as it is now; 0 if there is none such.");
    FoldForge x = made(due, new Built().type(0, I64).function(0, 32, 0, 36, 1).global(I32, 0, 65, -5)
        .global(I64, 1, 66, 6).global(I32, 0, 65, 7).export("f", 0, 0));
    due.is("GLOBAL 0", x.global(0), -5);
    due.is("GLOBAL 1", x.global(1), 6);
    due.is("GLOBAL 2", x.global(2), 7);
    due.is("GLOBAL 3", x.global(3), 0);
    due.is("GLOBAL -1", x.global(-1), 0);
    for (int i : FAR) {
      due.is("GLOBAL " + i, x.global(i), 0);
    }
    for (long v : new long[] {Long.MIN_VALUE, Long.MAX_VALUE, 0, -1}) {
      x.argument(0, v);
      due.is("run", x.run(0, 2), 0);
      due.is("now", x.global(1), v);
      due.is("the one ahead", x.global(0), -5);
      due.is("the one behind", x.global(2), 7);
    }
    due.is("a MODULE with fewer", Due.module(x, new Built().global(I32, 0, 65, 1).bytes()), 1);
    due.is("GLOBAL 0", x.global(0), 1);
    due.is("GLOBAL 1 is there no more", x.global(1), 0);
    due.is("GLOBAL 2 is there no more", x.global(2), 0);
    due.is("without a MODULE", new FoldForge().global(0), 0);
  }

  private static void memory(Due due) {
    due.sentence("Byte i of the MEMORY as it is now, a number 0 .. 255; -1 if there is none such.");
    FoldForge x = made(due, new Built().type(0, I32, I32).function(0, 32, 0, 32, 1, 58, 0, 0).type(I32)
        .function(1, 65, 1, 64, 0).memory(1).export("f", 0, 0).export("grow", 0, 1));
    for (int at : new int[] {0, 1, 7, 8, 32767, 65535}) {
      for (int v : new int[] {0, 1, 127, 128, 255, 256, -1}) {
        x.argument(0, at);
        x.argument(1, v);
        due.is("run", x.run(0, 3), 0);
        due.is(v + " at " + at, x.memory(at), v & 255);
      }
      due.is("ahead of " + at, x.memory(at - 1), at == 0 ? -1 : at == 1 || at == 8 ? 255 : 0);
      due.is("behind " + at, x.memory(at + 1), at == 65535 ? -1 : 0);
    }
    due.is("byte 65536", x.memory(65536), -1);
    due.is("byte 131072", x.memory(131072), -1);
    for (int i : new int[] {-1, -65536, Integer.MIN_VALUE, Integer.MAX_VALUE}) {
      due.is("byte " + i, x.memory(i), -1);
    }
    due.is("grow", x.run(1, 2), 0);
    due.is("byte 65535", x.memory(65535), 255);
    due.is("byte 65536", x.memory(65536), 0);
    due.is("byte 131071", x.memory(131071), 0);
    due.is("byte 131072", x.memory(131072), -1);
    due.is("a MEMORY of no pages", made(due, new Built().memory(0)).memory(0), -1);
    due.is("no MEMORY", made(due, new Built().table(1)).memory(0), -1);
    due.is("without a MODULE", new FoldForge().memory(0), -1);
  }

  private static void table(Due due) {
    due.sentence("The FUNCTION at a place of the TABLE; -1: none there; -2: no such place.");
    for (int places : new int[] {0, 1, 2, 99, 100}) {
      Built built = new Built().type(0).function(0).function(0).table(places);
      FoldForge x = made(due, places == 0 ? built : built.element(65, places - 1, 1));
      for (int i = 0; i < places; i++) {
        due.is("place " + i + " of " + places, x.table(i), i == places - 1 ? 1 : -1);
      }
      due.is("place " + places + " of " + places, x.table(places), -2);
      for (int i : new int[] {-1, 100, 101, Integer.MIN_VALUE, Integer.MAX_VALUE}) {
        due.is("place " + i + " of " + places, x.table(i), -2);
      }
    }
    due.is("no TABLE", made(due, new Built().memory(1)).table(0), -2);
    due.is("without a MODULE", new FoldForge().table(0), -2);
  }

  private static void spent(Due due) {
    due.sentence("Of the latest call() that answered 0 or more: 0 how many cons, 1 how many CALLS, 2 the most CALLS in one"
        + " another. 0 for another what, and before.");
    FoldForge x = made(due, new Built().type(0).function(0, 0).export("f", 0, 0));
    due.is("program", Due.program(x, "fun f(a: int): int = if a < 1 then 0 else"
        + " match cons(a, nil) with nil -> 0 | h, t -> f(a - 1) + f(a - 1);"
        + "fun g(a: int): int = 1 / a; fun h(a: list): int = 0;"), 3);
    int[][] wanted = {{0, 1, 1}, {1, 3, 2}, {3, 7, 3}, {7, 15, 4}};
    for (int a = 0; a < 4; a++) {
      x.argument(0, a);
      due.is("call", x.call(0), 0);
      due.is("run", x.run(0, 1), 2);
      due.is("refused", x.call(2), -1);
      due.is("refused", x.call(3), -1);
      for (int what = 0; what < 3; what++) {
        due.is("spent(" + what + ") of " + a, x.spent(what), wanted[a][what]);
      }
      due.is("spent(-1)", x.spent(-1), 0);
      due.is("spent(3)", x.spent(3), 0);
    }
    x.argument(0, 0);
    due.is("an ERROR", x.call(1), 2);
    due.is("an ERROR: cons", x.spent(0), 0);
    due.is("an ERROR: CALLS", x.spent(1), 1);
    due.is("an ERROR: in one another", x.spent(2), 1);
    for (int what : FAR) {
      due.is("spent(" + what + ")", x.spent(what), 0);
    }
  }
}
