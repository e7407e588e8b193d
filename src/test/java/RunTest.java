/** Promises 7, 8 and 9: RUNS of an exported FUNCTION: STEPS, blocks, CALLS, TRAPS, what they gave. */
public final class RunTest {
  private static final int I32 = 127;
  private static final int I64 = 126;

  public static void main(String[] args) {
    Due due = Due.begin();
    whatRuns(due);
    steps(due);
    ifs(due);
    blocks(due);
    loops(due);
    tables(due);
    returns(due);
    calls(due);
    nested(due);
    indirect(due);
    variables(due);
    traps(due);
    outcomes(due);
    longRuns(due);
    due.end("RunTest");
  }

  private static FoldForge made(Due due, Built built) {
    FoldForge x = new FoldForge();
    due.is("module", Due.module(x, built.bytes()), 1);
    return x;
  }

  /** A FUNCTION of two i32 ARGUMENTS and an i32 LOCAL, that gives an i32. */
  private static FoldForge code(Due due, int... instructions) {
    return made(due, new Built().type(I32, I32, I32)
        .function(0, Due.bytes(1, 1, I32), Due.bytes(instructions)).export("f", 0, 0));
  }

  private static void run(Due due, FoldForge x, long a, long b, long gives, int steps) {
    due.is("argument 0", x.argument(0, a), 1);
    due.is("argument 1", x.argument(1, b), 1);
    String what = "run with " + a + ", " + b;
    due.is(what, x.run(0, 20000), 0);
    due.is(what + " gives", x.outcome(0), gives);
    due.is(what + " takes STEPS", x.outcome(1), steps);
    due.is(what + " meets", x.outcome(2), 0);
    if (steps > 0) {
      due.is(what + ", a STEP less", x.run(0, steps - 1), 1);
      due.is(what + ", a STEP less: gives", x.outcome(0), 0);
      due.is(what + ", a STEP less: STEPS", x.outcome(1), steps - 1);
      due.is(what + ", a STEP less: TRAP", x.outcome(2), 0);
    }
    due.is(what + ", as many STEPS", x.run(0, steps), 0);
    due.is(what + ", as many STEPS: gives", x.outcome(0), gives);
  }

  private static void trap(Due due, FoldForge x, int trap, int steps) {
    due.is("TRAP " + trap, x.run(0, 20000), 2);
    due.is("TRAP " + trap + ": gives", x.outcome(0), 0);
    due.is("TRAP " + trap + ": STEPS", x.outcome(1), steps);
    due.is("TRAP " + trap + ": which", x.outcome(2), trap);
    due.is("TRAP " + trap + ", a STEP less", x.run(0, steps - 1), 1);
    due.is("TRAP " + trap + ", a STEP less: which", x.outcome(2), 0);
  }

  private static void whatRuns(Due due) {
    FoldForge x = made(due, new Built().type(0).type(0, I32, I32, I32, I32, I32, I32, I32, I32)
        .type(0, I32, I32, I32, I32, I32, I32, I32, I32, I32).function(0).function(1).function(2).table(1)
        .memory(1).global(I32, 0, 65, 1).export("t", 1, 0).export("m", 2, 0).export("g", 3, 0)
        .export("none", 0, 0).export("eight", 0, 1).export("nine", 0, 2));
    int[] wanted = {-1, -1, -1, 0, 0, -1};
    for (int i = 0; i < 6; i++) {
      due.is("run(" + i + ", 0)", x.run(i, 0), wanted[i]);
      due.is("run(" + i + ", -1)", x.run(i, -1), wanted[i] == 0 ? -2 : -1);
      due.is("run(" + i + ", 20000)", x.run(i, 20000), wanted[i]);
      due.is("run(" + i + ", 20001)", x.run(i, 20001), wanted[i] == 0 ? -2 : -1);
      due.is("run of least", x.run(i, Integer.MIN_VALUE), wanted[i] == 0 ? -2 : -1);
      due.is("run of greatest", x.run(i, Integer.MAX_VALUE), wanted[i] == 0 ? -2 : -1);
    }
    due.is("run(6, 1)", x.run(6, 1), -1);
    due.is("run(-1, 1)", x.run(-1, 1), -1);
    due.is("run(-1, -1)", x.run(-1, -1), -1);
    due.is("run of the least", x.run(Integer.MIN_VALUE, 1), -1);
    due.is("run of the greatest", x.run(Integer.MAX_VALUE, 1), -1);
  }

  private static void steps(Due due) {
    run(due, code(due, 65, 7), 0, 0, 7, 1);
    run(due, code(due, 1, 1, 1, 65, 7), 0, 0, 7, 4);
    run(due, code(due, 32, 0, 32, 1, 107), 5, 9, -4, 3);
    run(due, code(due, 32, 0), 0xFFFFFFFFL, 0, -1, 1);
    run(due, code(due, 32, 0), 0x123456780000000FL, 0, 15, 1);
    run(due, code(due, 32, 2), 3, 4, 0, 1);
    FoldForge none = made(due, new Built().type(0).function(0).export("f", 0, 0));
    run(due, none, 0, 0, 0, 0);
    FoldForge nop = made(due, new Built().type(0).function(0, 1).export("f", 0, 0));
    run(due, nop, 0, 0, 0, 1);
    FoldForge great = made(due, new Built().type(I64, I64, I32).function(0, 32, 0).export("f", 0, 0));
    run(due, great, Long.MIN_VALUE, 0, Long.MIN_VALUE, 1);
    run(due, great, 0x123456789L, 0, 0x123456789L, 1);
  }

  private static void ifs(Due due) {
    FoldForge both = code(due, 32, 0, 4, I32, 65, 7, 5, 1, 65, 8, 11);
    run(due, both, 1, 0, 7, 3);
    run(due, both, -1, 0, 7, 3);
    run(due, both, 0, 0, 8, 4);
    run(due, both, 1L << 32, 0, 8, 4);
    FoldForge one = code(due, 32, 0, 4, 64, 65, 5, 33, 1, 11, 32, 1);
    run(due, one, 1, 2, 5, 5);
    run(due, one, 0, 2, 2, 3);
    FoldForge empty = code(due, 32, 0, 4, 64, 5, 11, 32, 1);
    run(due, empty, 1, 2, 2, 3);
    run(due, empty, 0, 2, 2, 3);
    FoldForge within = code(due, 32, 0, 4, I32, 32, 1, 4, I32, 65, 1, 5, 65, 2, 11, 5, 32, 1, 4, I32, 65, 3, 5,
        65, 4, 11, 11);
    run(due, within, 1, 1, 1, 5);
    run(due, within, 1, 0, 2, 5);
    run(due, within, 0, 1, 3, 5);
    run(due, within, 0, 0, 4, 5);
    FoldForge out = code(due, 32, 0, 4, I32, 65, 9, 12, 0, 5, 65, 8, 12, 0, 11);
    run(due, out, 1, 0, 9, 4);
    run(due, out, 0, 0, 8, 4);
  }

  private static void blocks(Due due) {
    run(due, code(due, 2, I32, 65, 3, 11), 0, 0, 3, 2);
    run(due, code(due, 2, 64, 1, 12, 0, 1, 1, 11, 65, 3), 0, 0, 3, 4);
    run(due, code(due, 2, 64, 2, 64, 12, 1, 11, 1, 1, 11, 65, 3), 0, 0, 3, 4);
    run(due, code(due, 2, 64, 2, 64, 12, 0, 11, 1, 1, 11, 65, 3), 0, 0, 3, 6);
    // what is beneath a block stays, what is left in it goes
    run(due, code(due, 65, 40, 2, I32, 65, 1, 65, 2, 65, 3, 12, 0, 11, 106), 0, 0, 43, 7);
    run(due, code(due, 65, 40, 2, 64, 65, 1, 65, 2, 12, 0, 11), 0, 0, 40, 5);
    run(due, code(due, 65, 40, 2, I32, 65, 1, 65, 2, 65, 3, 12, 1, 11, 106), 0, 0, 3, 6);
    // each label has its own: the first leads to a block above nothing, the last to one above two values
    run(due, code(due, 2, 64, 65, 1, 13, 0, 11, 65, 40, 2, 64, 65, 9, 65, 1, 13, 0, 26, 11, 65, 50, 2, I32, 65, 7, 65, 8,
        12, 0, 11, 106, 106), 0, 0, 98, 15);
    FoldForge perhaps = code(due, 2, I32, 65, 7, 32, 0, 13, 0, 26, 65, 8, 11);
    run(due, perhaps, 1, 0, 7, 4);
    run(due, perhaps, 0, 0, 8, 6);
    run(due, perhaps, Integer.MIN_VALUE, 0, 7, 4);
  }

  private static void loops(Due due) {
    // counts ARGUMENT 0 down and the LOCAL up: the loop's own STEP is taken once
    FoldForge down = code(due, 3, 64, 32, 0, 4, 64, 32, 2, 65, 2, 106, 33, 2, 32, 0, 65, 1, 107, 33, 0, 12, 1, 11,
        11, 32, 2);
    run(due, down, 0, 0, 0, 4);
    run(due, down, 1, 0, 2, 4 + 11);
    run(due, down, 5, 0, 10, 4 + 55);
    FoldForge once = code(due, 3, 64, 1, 11, 65, 1);
    run(due, once, 0, 0, 1, 3);
    // a br to a loop takes nothing along, and what is left in it goes
    FoldForge left = code(due, 65, 9, 3, 64, 65, 1, 32, 0, 65, 1, 107, 34, 0, 13, 0, 26, 11);
    run(due, left, 1, 0, 9, 2 + 7);
    run(due, left, 3, 0, 9, 2 + 6 + 6 + 7);
  }

  private static void tables(Due due) {
    FoldForge x = code(due, 2, 64, 2, 64, 2, 64, 32, 0, 14, 2, 0, 1, 2, 11, 65, 10, 15, 11, 65, 11, 15, 11, 65, 12);
    run(due, x, 0, 0, 10, 7);
    run(due, x, 1, 0, 11, 7);
    run(due, x, 2, 0, 12, 6);
    run(due, x, 3, 0, 12, 6);
    run(due, x, -1, 0, 12, 6);
    run(due, x, Integer.MIN_VALUE, 0, 12, 6);
    FoldForge alone = code(due, 2, I32, 65, 4, 32, 0, 14, 0, 0, 11);
    run(due, alone, 0, 0, 4, 4);
    run(due, alone, 7, 0, 4, 4);
    FoldForge carries = code(due, 2, I32, 65, 5, 2, I32, 65, 4, 32, 0, 14, 1, 0, 1, 11, 106, 11);
    run(due, carries, 0, 0, 9, 7);
    run(due, carries, 1, 0, 4, 6);
    FoldForge out = code(due, 65, 8, 32, 0, 14, 0, 0);
    run(due, out, 0, 0, 8, 3);
    FoldForge again = code(due, 2, 64, 3, 64, 32, 1, 65, 1, 107, 34, 1, 14, 2, 1, 0, 0, 11, 11, 32, 1);
    run(due, again, 0, 3, 0, 2 + 5 * 3 + 1);
  }

  private static void returns(Due due) {
    run(due, code(due, 65, 1, 65, 2, 65, 3, 15), 0, 0, 3, 4);
    run(due, code(due, 2, 64, 3, 64, 65, 1, 65, 2, 15, 11, 11, 65, 9), 0, 0, 2, 5);
    FoldForge nothing = made(due, new Built().type(0).function(0, 65, 1, 15, 0).export("f", 0, 0));
    run(due, nothing, 0, 0, 0, 2);
    FoldForge label = made(due, new Built().type(0).function(0, 2, 64, 65, 1, 12, 1, 11, 0).export("f", 0, 0));
    run(due, label, 0, 0, 0, 3);
  }

  private static void calls(Due due) {
    // f(a, b) = g(a, b) * 10 + a; g has LOCALS of its own, at first 0
    FoldForge x = made(due, new Built().type(I32, I32, I32).function(0, 32, 0, 32, 1, 16, 1, 65, 10, 108, 32, 0, 106)
        .function(0, Due.bytes(1, 2, I32), Due.bytes(32, 2, 65, 1, 106, 34, 2, 26, 32, 0, 32, 1, 107, 32, 2, 106,
            33, 0, 65, 7, 33, 1, 32, 0))
        .export("f", 0, 0));
    run(due, x, 9, 4, 69, 7 + 14);
    // what a FUNCTION leaves beneath what it gives goes
    FoldForge leaves = made(due, new Built().type(I32, I32, I32).type(I64).type(0).function(0, 65, 5, 16, 1, 167, 106)
        .function(1, 65, 1, 65, 2, 66, 3, 15).export("f", 0, 0));
    run(due, leaves, 0, 0, 8, 4 + 4);
    FoldForge nothing = made(due, new Built().type(I32, I32, I32).type(0, I32).function(0, 65, 5, 32, 0, 16, 1)
        .function(1, 65, 4, 33, 0).export("f", 0, 0));
    run(due, nothing, 1, 0, 5, 5);
    // a br behind a CALL: what is beneath its block stays, with LOCALS of its own
    FoldForge behind = made(due, new Built().type(I32, I32, I32).function(0, Due.bytes(1, 5, I32), Due.bytes(65, 40, 32,
        0, 32, 1, 16, 1, 2, I32, 65, 1, 65, 2, 65, 3, 12, 0, 11, 106, 106)).function(0, 32, 0, 32, 1, 107)
        .export("f", 0, 0));
    run(due, behind, 9, 4, 40 + 5 + 3, 11 + 3);
    // fib, by CALLS of itself
    FoldForge fib = made(due, new Built().type(I32, I32).function(0, 32, 0, 65, 2, 72, 4, I32, 32, 0, 5, 32, 0, 65, 1,
        107, 16, 0, 32, 0, 65, 2, 107, 16, 0, 106, 11).export("f", 0, 0));
    run(due, fib, 0, 0, 0, 5);
    run(due, fib, 2, 0, 1, 13 + 10);
    run(due, fib, 10, 0, 55, 88 * 13 + 89 * 5);
    // the order of what is taken
    FoldForge order = made(due, new Built().type(I32, I32, I32).type(I32, I32, I32, I32)
        .function(0, 65, 1, 65, 2, 65, 3, 16, 1)
        .function(1, 32, 0, 65, 10, 108, 32, 1, 106, 65, 10, 108, 32, 2, 106).export("f", 0, 0));
    run(due, order, 0, 0, 123, 4 + 9);
  }

  /** 64 in one another; the 65th is a TRAP. */
  private static void nested(Due due) {
    FoldForge x = made(due, new Built().type(I32, I32).function(0, 32, 0, 69, 4, I32, 65, 0, 5, 32, 0, 65, 1, 107, 16,
        0, 65, 1, 106, 11).export("f", 0, 0));
    run(due, x, 63, 0, 63, 63 * 9 + 4);
    x.argument(0, 64);
    trap(due, x, 8, 64 * 7);
    run(due, x, 63, 0, 63, 63 * 9 + 4);
    FoldForge self = made(due, new Built().type(0).function(0, 65, 0, 17, 0, 0).table(1).element(65, 0, 0)
        .export("f", 0, 0));
    trap(due, self, 8, 128);
    // one behind another there may be any number
    FoldForge many = made(due, new Built().type(I32, I32, I32).type(0).function(0, 3, 64, 16, 1, 32, 0, 65, 1, 107,
        34, 0, 13, 0, 11, 65, 1).function(1).export("f", 0, 0));
    run(due, many, 100, 0, 1, 100 * 6 + 2);
  }

  private static void indirect(Due due) {
    // TYPE 3 is like TYPE 0; place 0: add, 1: sub of TYPE 3, 2: none, 3: of other ARGUMENTS, 4: gives an i64
    FoldForge x = made(due, new Built().type(I32, I32, I32).type(I32, I32).type(I64, I32, I32).type(I32, I32, I32)
        .function(0, 65, 40, 65, 2, 32, 0, 17, 0, 0).function(0, 32, 0, 32, 1, 106)
        .function(3, 32, 0, 32, 1, 107).function(1, 65, 0).function(2, 66, 0).table(5, 6)
        .element(65, 0, 1, 2).element(65, 3, 3, 4).export("f", 0, 0));
    run(due, x, 0, 0, 42, 7);
    run(due, x, 1, 0, 38, 7);
    x.argument(0, 2);
    trap(due, x, 6, 4);
    x.argument(0, 3);
    trap(due, x, 7, 4);
    x.argument(0, 4);
    trap(due, x, 7, 4);
    x.argument(0, 5);
    trap(due, x, 5, 4);
    x.argument(0, -1);
    trap(due, x, 5, 4);
    x.argument(0, Integer.MIN_VALUE);
    trap(due, x, 5, 4);
    FoldForge unlike = made(due, new Built().type(I32, I32, I32).type(I32, I32, I64)
        .function(0, 65, 0, 65, 0, 65, 0, 17, 0, 0).function(1, 65, 0).table(1).element(65, 0, 1).export("f", 0, 0));
    trap(due, unlike, 7, 4);
    FoldForge first = made(due, new Built().type(I32, I32, I32).type(I32, I64, I32)
        .function(0, 65, 0, 65, 0, 65, 0, 17, 0, 0).function(1, 65, 0).table(1).element(65, 0, 1).export("f", 0, 0));
    trap(due, first, 7, 4);
    FoldForge fewer = made(due, new Built().type(0, I32).type(0)
        .function(1, 65, 0, 65, 0, 17, 0, 0).function(1, 1).table(1).element(65, 0, 1).export("f", 0, 0));
    trap(due, fewer, 7, 3);
    FoldForge gives = made(due, new Built().type(0).type(I32)
        .function(0, 65, 0, 17, 0, 0).function(1, 65, 0).table(1).element(65, 0, 1).export("f", 0, 0));
    trap(due, gives, 7, 2);
    FoldForge empty = made(due, new Built().type(0).function(0, 65, 0, 17, 0, 0).table(0).export("f", 0, 0));
    trap(due, empty, 5, 2);
  }

  private static void variables(Due due) {
    run(due, code(due, 32, 1, 33, 2, 65, 9, 33, 1, 32, 2), 0, 6, 6, 5);
    run(due, code(due, 32, 1, 34, 2, 32, 2, 106), 0, 6, 12, 4);
    run(due, code(due, 65, 1, 65, 2, 32, 0, 27), 5, 0, 1, 4);
    run(due, code(due, 65, 1, 65, 2, 32, 0, 27), 0, 0, 2, 4);
    run(due, code(due, 65, 1, 65, 2, 32, 0, 27), -7, 0, 1, 4);
    run(due, code(due, 65, 1, 65, 2, 26), 0, 0, 1, 3);
    FoldForge x = made(due, new Built().type(I64, I64).function(0, 35, 1, 32, 0, 124, 36, 1, 35, 1)
        .global(I32, 0, 65, 4).global(I64, 1, 66, 5).export("f", 0, 0));
    x.argument(0, 10);
    due.is("run", x.run(0, 9), 0);
    due.is("gives", x.outcome(0), 15);
    due.is("stays", x.global(1), 15);
    due.is("run", x.run(0, 4), 1);
    due.is("SPENT, what was done stays", x.global(1), 25);
    due.is("run", x.run(0, 3), 1);
    due.is("SPENT before", x.global(1), 25);
    due.is("the other", x.global(0), 4);
    FoldForge small = made(due, new Built().type(0, I32).function(0, 32, 0, 36, 0).global(I32, 1, 65, 4)
        .export("f", 0, 0));
    small.argument(0, 0x180000000L);
    due.is("run", small.run(0, 9), 0);
    due.is("an i32 with its sign", small.global(0), Integer.MIN_VALUE);
  }

  private static void traps(Due due) {
    trap(due, code(due, 1, 0), 1, 2);
    trap(due, code(due, 65, 1, 65, 0, 109), 2, 3);
    trap(due, code(due, 65, 1, 65, 0, 110), 2, 3);
    trap(due, code(due, 65, 1, 65, 0, 111), 2, 3);
    trap(due, code(due, 65, 1, 65, 0, 112), 2, 3);
    trap(due, code(due, 66, 1, 66, 0, 127, 167), 2, 3);
    trap(due, code(due, 66, 1, 66, 0, 130, 167), 2, 3);
    FoldForge x = code(due, 32, 0, 32, 1, 109);
    x.argument(0, Integer.MIN_VALUE);
    x.argument(1, -1);
    trap(due, x, 3, 3);
    FoldForge within = made(due, new Built().type(I32).function(0, 16, 1).function(0, 1, 0).export("f", 0, 0));
    trap(due, within, 1, 3);
    FoldForge sets = made(due, new Built().type(0).function(0, 65, 9, 36, 0, 0).global(I32, 1, 65, 4)
        .export("f", 0, 0));
    trap(due, sets, 1, 3);
    due.is("what was done stays", sets.global(0), 9);
  }

  /** What outcome() tells once other calls have been made. */
  private static void outcomes(Due due) {
    FoldForge x = code(due, 32, 0, 32, 1, 109);
    x.argument(0, 21);
    x.argument(1, 3);
    due.is("before", x.outcome(0) + x.outcome(1) + x.outcome(2), 0);
    due.is("run", x.run(0, 3), 0);
    due.is("gives", x.outcome(0), 7);
    due.is("run of none", x.run(1, 3), -1);
    due.is("run of no STEPS", x.run(0, 20001), -2);
    due.is("no such FUNCTION", x.call(0), -1);
    due.is("argument", x.argument(1, 0), 1);
    due.is("module", x.module(0), -1);
    due.is("gives still", x.outcome(0), 7);
    due.is("STEPS still", x.outcome(1), 3);
    for (int what : new int[] {-1, 3, 4, Integer.MIN_VALUE, Integer.MAX_VALUE}) {
      due.is("outcome(" + what + ")", x.outcome(what), 0);
    }
    trap(due, x, 2, 3);
    due.is("run", x.run(0, 3), 2);
    due.is("TRAP", x.outcome(2), 2);
    due.is("program", Due.program(x, "fun f(a: int): int = a;"), 1);
    due.is("TRAP still", x.outcome(2), 2);
    due.is("STEPS still", x.outcome(1), 3);
    due.is("call", x.call(0), 0);
    due.is("what the call gave", x.outcome(0), 21);
    due.is("no STEPS", x.outcome(1), 0);
    due.is("no TRAP", x.outcome(2), 0);
  }

  private static void longRuns(Due due) {
    FoldForge x = code(due, 3, 64, 12, 0, 11, 65, 1);
    due.is("without end", x.run(0, 20000), 1);
    due.is("STEPS", x.outcome(1), 20000);
    // the most values that may stand at once: each STEP puts one
    byte[] many = new byte[2 * 1900];
    for (int k = 0; k < 1900; k++) {
      many[2 * k] = 32;
      many[2 * k + 1] = 1;
    }
    FoldForge deep = made(due, new Built().type(0, I32, I32).function(0, Due.bytes(1, 48, I32),
        Due.join(many, Due.bytes(16, 0, 0))).export("f", 0, 0));
    due.is("deep", deep.run(0, 20000), 1);
    due.is("STEPS", deep.outcome(1), 20000);
    byte[] locals = Due.bytes(1, 50, I64);
    FoldForge most = made(due, new Built().type(I32, I32).function(0, locals, Due.bytes(65, 5, 32, 0, 69, 4, I32, 65,
        1, 5, 32, 0, 65, 1, 107, 16, 0, 11, 106)).export("f", 0, 0));
    run(due, most, 63, 0, 64 * 5 + 1, 63 * 9 + 6);
  }
}
