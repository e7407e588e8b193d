/** Promises 3 and 4: VALID or not, once READING has come to the end; place() is -1 then. */
public final class ValidTest {
  private static final int REFUSED = -2;
  private static final int INVALID = -3;
  private static final int NOT_MADE = -4;
  private static final int I32 = 127;
  private static final int I64 = 126;

  public static void main(String[] args) {
    Due due = Due.begin();
    numbersThere(due);
    limits(due);
    globals(due);
    exports(due);
    elements(due);
    made(due);
    operators(due);
    blocks(due);
    branches(due);
    deadCode(due);
    calls(due);
    variables(due);
    memoryUse(due);
    wholeCodes(due);
    due.end("ValidTest");
  }

  private static void is(Due due, String what, Built built, int answer) {
    due.module(what, built.bytes(), answer, -1);
  }

  /** A FUNCTION that gives something, takes i32 and i64, and has a GLOBAL and a MEMORY by it. */
  private static void code(Due due, int answer, int gives, int... instructions) {
    StringBuilder what = new StringBuilder("code");
    for (int b : instructions) {
      what.append(' ').append(b);
    }
    Built built = new Built().type(gives, I32, I64).type(0).type(I32, I64, I32)
        .function(0, Due.bytes(2, 1, I64, 1, I32), Due.bytes(instructions))
        .function(1).function(2, 65, 0).table(2).memory(1)
        .global(I32, 0, 65, 0).global(I64, 1, 66, 0);
    is(due, what.toString(), built, answer);
  }

  private static void fits(Due due, int gives, int... instructions) {
    code(due, 1, gives, instructions);
  }

  private static void unfit(Due due, int gives, int... instructions) {
    code(due, INVALID, gives, instructions);
  }

  private static void numbersThere(Due due) {
    is(due, "TYPE 1 of one", new Built().type(0).function(1), INVALID);
    is(due, "no TYPES", new Built().function(0), INVALID);
    is(due, "two TABLES", new Built().table(1).table(1), INVALID);
    is(due, "two TABLES ahead of LIMITS", new Built().table(1).table(101), INVALID);
    is(due, "two MEMORIES", new Built().memory(1).memory(1), INVALID);
    is(due, "two MEMORIES ahead of LIMITS", new Built().table(101).memory(1).memory(1), INVALID);
    is(due, "TYPE ahead of LIMITS", new Built().type(0).function(1).table(101), INVALID);
    is(due, "a TABLE and a MEMORY", new Built().table(0).memory(0), 1);
  }

  private static void limits(Due due) {
    is(due, "TABLE of 100", new Built().table(100, 100), 1);
    is(due, "TABLE of 101", new Built().table(101), REFUSED);
    is(due, "TABLE up to 101", new Built().table(0, 101), REFUSED);
    is(due, "TABLE's most below", new Built().table(3, 2), INVALID);
    is(due, "TABLE's most below, both beyond", new Built().table(103, 102), INVALID);
    is(due, "TABLE of very many", new Built().table(4294967295L), REFUSED);
    is(due, "TABLE up to very many", new Built().table(1, 4294967295L), REFUSED);
    is(due, "MEMORY of 2", new Built().memory(2, 2), 1);
    is(due, "MEMORY of 3", new Built().memory(3), REFUSED);
    is(due, "MEMORY up to 3", new Built().memory(0, 3), REFUSED);
    is(due, "MEMORY's most below", new Built().memory(1, 0), INVALID);
    is(due, "MEMORY's most below, both beyond", new Built().memory(5, 4), INVALID);
    is(due, "MEMORY of very many", new Built().memory(4294967295L, 4294967295L), REFUSED);
    is(due, "the TABLE's whole first", new Built().table(101).memory(1, 0), REFUSED);
    is(due, "the TABLE's whole first", new Built().table(1, 0).memory(3), INVALID);
    is(due, "LIMITS ahead of GLOBALS", new Built().memory(3).global(I32, 0, 66, 0), REFUSED);
    is(due, "LIMITS ahead of EXPORTS", new Built().memory(3).export("a", 0, 0), REFUSED);
    is(due, "LIMITS ahead of CODES", new Built().type(I32).function(0).memory(3), REFUSED);
    is(due, "LIMITS ahead of ELEMENTS", new Built().memory(3).element(65, 0), REFUSED);
  }

  private static void globals(Due due) {
    is(due, "i32 by i64", new Built().global(I32, 0, 66, 0), INVALID);
    is(due, "i64 by i32", new Built().global(I64, 0, 65, 0), INVALID);
    is(due, "both fit", new Built().global(I64, 0, 66, 0).global(I32, 1, 65, 0), 1);
    is(due, "a GLOBAL's GLOBAL", new Built().global(I32, 0, 65, 0).global(I32, 0, 35, 0), INVALID);
  }

  private static void exports(Due due) {
    Built all = new Built().type(0).function(0).table(1).memory(1).global(I32, 0, 65, 0);
    all.export("f", 0, 0).export("t", 1, 0).export("m", 2, 0).export("g", 3, 0).export("", 3, 0);
    is(due, "one of each", all, 1);
    for (int kind = 0; kind < 4; kind++) {
      Built one = new Built().type(0).function(0).table(1).memory(1).global(I32, 0, 65, 0);
      is(due, "number 1 of kind " + kind, one.export("a", kind, 1), INVALID);
      is(due, "none of kind " + kind, new Built().export("a", kind, 0), INVALID);
      is(due, "a great number of kind " + kind, new Built().type(0).function(0).table(1).memory(1)
          .global(I32, 0, 65, 0).export("a", kind, -1 >>> 1), INVALID);
    }
    is(due, "names alike", new Built().memory(0).table(0).export("ab", 1, 0).export("ab", 2, 0), INVALID);
    is(due, "the last two alike", new Built().memory(0).export("b", 2, 0).export("ab", 2, 0).export("ab", 2, 0),
        INVALID);
    is(due, "one of four like another", new Built().memory(0).export("a", 2, 0).export("b", 2, 0).export("c", 2, 0)
        .export("b", 2, 0), INVALID);
    is(due, "empty names alike", new Built().memory(0).export("", 2, 0).export("", 2, 0), INVALID);
    is(due, "names unlike", new Built().memory(0).export("ab", 2, 0).export("ac", 2, 0).export("a", 2, 0), 1);
    is(due, "the last like the first", new Built().memory(0).export("ab", 2, 0).export("ac", 2, 0)
        .export("ab", 2, 0), INVALID);
  }

  private static void elements(Due due) {
    is(due, "without a TABLE", new Built().element(65, 0), INVALID);
    is(due, "an i64", new Built().table(3).element(66, 0), INVALID);
    is(due, "a GLOBAL", new Built().table(3).global(I32, 0, 65, 0).element(35, 0), INVALID);
    is(due, "no such FUNCTION", new Built().type(0).function(0).table(3).element(65, 0, 0, 1), INVALID);
    is(due, "no such FUNCTION, first of all", new Built().type(0).function(0).table(3).element(65, 0, 1, 0), INVALID);
    is(due, "the second's FUNCTION", new Built().type(0).function(0).table(3).element(65, 0, 0)
        .element(65, 0, 7), INVALID);
    is(due, "there", new Built().type(0).function(0).table(3).element(65, 1, 0, 0), 1);
  }

  private static void made(Due due) {
    is(due, "to the end", new Built().type(0).function(0).table(3).element(65, 1, 0, 0), 1);
    is(due, "beyond", new Built().type(0).function(0).table(3).element(65, 2, 0, 0), NOT_MADE);
    is(due, "none, at the end", new Built().table(3).element(65, 3), 1);
    is(due, "none, beyond", new Built().table(3).element(65, 4), NOT_MADE);
    is(due, "without sign", new Built().type(0).function(0).table(3).element(65, -1, 0), NOT_MADE);
    is(due, "without sign, the least", new Built().table(3).element(65, Integer.MIN_VALUE), NOT_MADE);
    is(due, "most does not count", new Built().type(0).function(0).table(1, 9).element(65, 1, 0), NOT_MADE);
    is(due, "the second one", new Built().type(0).function(0).table(2).element(65, 0, 0)
        .element(65, 2, 0), NOT_MADE);
    is(due, "VALID comes first", new Built().type(I32).function(0).table(0).element(65, 1, 0), INVALID);
  }

  private static int[] join(int[]... parts) {
    int n = 0;
    for (int[] part : parts) {
      n += part.length;
    }
    int[] all = new int[n];
    n = 0;
    for (int[] part : parts) {
      System.arraycopy(part, 0, all, n, part.length);
      n += part.length;
    }
    return all;
  }

  private static int[] put(int type) {
    return type == I32 ? new int[] {65, 0} : new int[] {66, 0};
  }

  /** Each numeric INSTRUCTION: what it takes and gives, and nothing else. */
  private static void operators(Due due) {
    for (int op = 69; op <= 173; op++) {
      if (op > 90 && op < 103 || op > 138 && op < 167 || op > 167 && op < 172) {
        continue;
      }
      boolean small = op <= 79 || op >= 103 && op <= 120 || op >= 172;
      int takes = small ? I32 : I64;
      int gives = op <= 90 || op >= 103 && op <= 120 || op == 167 ? I32 : I64;
      int many = op == 69 || op == 80 || op >= 103 && op <= 105 || op >= 121 && op <= 123 || op >= 167 ? 1 : 2;
      int other = takes == I32 ? I64 : I32;
      int[] rest = {op};
      int[] ready = many == 1 ? put(takes) : join(put(takes), put(takes));
      fits(due, gives, join(ready, rest));
      unfit(due, gives == I32 ? I64 : I32, join(ready, rest));
      unfit(due, 0, join(ready, rest));
      unfit(due, gives, rest);
      unfit(due, gives, join(put(other), ready, rest));
      unfit(due, gives, many == 1 ? join(put(other), rest) : join(put(takes), put(other), rest));
      if (many == 2) {
        unfit(due, gives, join(put(other), put(takes), rest));
        unfit(due, gives, join(put(takes), rest));
      }
    }
  }

  private static void blocks(Due due) {
    fits(due, 0, 2, 64, 11, 3, 64, 11, 65, 0, 4, 64, 11);
    fits(due, I32, 2, I32, 65, 1, 11);
    fits(due, I64, 3, I64, 66, 1, 11);
    unfit(due, I32, 2, I64, 65, 1, 11);
    unfit(due, I32, 2, I32, 66, 1, 11);
    unfit(due, I32, 2, I32, 11);
    unfit(due, 0, 2, 64, 65, 1, 11);
    unfit(due, I32, 65, 1, 2, I32, 11);
    unfit(due, I32, 65, 1, 2, 64, 26, 11, 65, 0);
    unfit(due, I32, 65, 0, 65, 1, 2, 64, 106, 11);
    unfit(due, 0, 4, 64, 11);
    unfit(due, 0, 66, 0, 4, 64, 11);
    unfit(due, I32, 65, 0, 4, I32, 65, 1, 11);
    fits(due, I32, 65, 0, 4, I32, 65, 1, 5, 65, 2, 11);
    unfit(due, I32, 65, 0, 4, I32, 65, 1, 5, 11);
    unfit(due, I32, 65, 0, 4, I32, 5, 65, 1, 11);
    unfit(due, I32, 65, 0, 4, I32, 65, 1, 5, 66, 2, 11);
    unfit(due, I32, 65, 0, 4, I32, 66, 1, 5, 65, 2, 11);
    unfit(due, I32, 65, 0, 4, I32, 65, 1, 65, 1, 5, 65, 2, 11);
    fits(due, 0, 65, 0, 4, 64, 5, 1, 11);
    unfit(due, 0, 65, 0, 4, 64, 5, 65, 1, 11);
    unfit(due, 0, 65, 0, 4, 64, 65, 1, 5, 11);
    fits(due, 0, 65, 0, 4, 64, 0, 5, 11);
    unfit(due, I32, 65, 0, 4, I32, 0, 5, 11);
    unfit(due, I32);
    unfit(due, 0, 65, 0);
    unfit(due, I32, 65, 0, 65, 0);
    unfit(due, 0, 26);
    fits(due, 0, 65, 0, 26, 66, 0, 26);
  }

  private static void branches(Due due) {
    fits(due, 0, 12, 0);
    unfit(due, 0, 12, 1);
    fits(due, I32, 65, 0, 12, 0);
    unfit(due, I32, 12, 0);
    unfit(due, I32, 66, 0, 12, 0);
    fits(due, I32, 2, I32, 65, 0, 12, 0, 11);
    fits(due, I32, 2, 64, 65, 0, 12, 1, 11, 65, 0);
    unfit(due, I32, 2, 64, 12, 1, 11, 65, 0);
    fits(due, I32, 3, I32, 12, 0, 11);
    fits(due, I32, 3, I32, 65, 0, 13, 0, 65, 1, 11);
    fits(due, I32, 3, I32, 65, 1, 65, 0, 13, 1, 11);
    unfit(due, I64, 3, I32, 65, 1, 65, 0, 13, 1, 11, 172);
    fits(due, I32, 2, I32, 65, 1, 65, 0, 13, 0, 11);
    unfit(due, I32, 2, I32, 65, 0, 13, 0, 11);
    unfit(due, I32, 2, I32, 65, 1, 66, 0, 13, 0, 11);
    unfit(due, 0, 65, 0, 13, 1);
    unfit(due, 0, 13, 0);
    fits(due, 0, 65, 0, 14, 0, 0);
    unfit(due, 0, 14, 0, 0);
    unfit(due, 0, 66, 0, 14, 0, 0);
    unfit(due, 0, 65, 0, 14, 0, 1);
    unfit(due, 0, 65, 0, 14, 1, 1, 0);
    fits(due, I32, 2, I32, 65, 1, 65, 0, 14, 2, 0, 1, 1, 11);
    unfit(due, I32, 2, 64, 65, 1, 65, 0, 14, 1, 0, 1, 11, 65, 0);
    unfit(due, I32, 2, I64, 65, 1, 65, 0, 14, 1, 0, 1, 11, 26, 65, 0);
    fits(due, 0, 3, I32, 65, 0, 14, 1, 0, 1, 11, 26);
    fits(due, 0, 15);
    fits(due, I64, 66, 0, 15);
    unfit(due, I64, 65, 0, 15);
    unfit(due, I64, 15);
    fits(due, I64, 2, 64, 66, 1, 15, 11, 66, 2);
    unfit(due, I64, 2, 64, 66, 1, 15, 11);
    unfit(due, I64, 66, 1, 2, 64, 15, 11);
  }

  private static void deadCode(Due due) {
    for (int[] dead : new int[][] {{0}, {12, 0}, {15}, {65, 0, 14, 0, 0}}) {
      fits(due, 0, dead);
      fits(due, 0, join(dead, new int[] {26, 26}));
      fits(due, 0, join(dead, new int[] {106, 26}));
      fits(due, 0, join(dead, new int[] {124, 26}));
      fits(due, 0, join(dead, new int[] {65, 0, 106, 26}));
      unfit(due, 0, join(dead, new int[] {66, 0, 106, 26}));
      unfit(due, 0, join(dead, new int[] {65, 0}));
      unfit(due, 0, join(dead, new int[] {106}));
      unfit(due, 0, join(dead, new int[] {2, 64, 26, 11}));
      unfit(due, 0, join(dead, new int[] {2, I32, 11, 26}));
      fits(due, 0, join(dead, new int[] {27, 26}));
      fits(due, 0, join(dead, new int[] {66, 0, 65, 0, 27, 26}));
      fits(due, 0, join(dead, new int[] {66, 0, 65, 0, 27, 80, 26}));
      unfit(due, 0, join(dead, new int[] {66, 0, 65, 0, 27, 69, 26}));
      unfit(due, 0, join(dead, new int[] {65, 0, 66, 0, 65, 0, 27, 26}));
      fits(due, 0, join(dead, new int[] {27, 69, 26}));
      fits(due, 0, join(dead, new int[] {27, 80, 26}));
      unfit(due, 0, join(dead, new int[] {32, 9}));
      unfit(due, 0, join(dead, new int[] {12, 1}));
      fits(due, 0, join(dead, new int[] {4, 64, 5, 11}));
      unfit(due, 0, join(dead, new int[] {66, 0, 4, 64, 11}));
      fits(due, 0, join(dead, new int[] {13, 0}));
    }
    fits(due, I32, 0);
    fits(due, I32, 2, I32, 0, 11);
    unfit(due, I64, 2, I32, 0, 11);
    unfit(due, I32, 2, 64, 0, 11);
    fits(due, I32, 0, 13, 0);
    fits(due, I32, 2, I32, 0, 13, 0, 11);
    unfit(due, I32, 2, I64, 0, 13, 0, 69, 11, 167);
    unfit(due, I64, 2, I32, 0, 14, 1, 0, 1, 11, 172);
  }

  private static void calls(Due due) {
    fits(due, 0, 16, 1);
    unfit(due, 0, 16, 3);
    unfit(due, I32, 16, 1);
    fits(due, I32, 66, 0, 65, 0, 16, 2);
    unfit(due, I32, 65, 0, 66, 0, 16, 2);
    unfit(due, I32, 65, 0, 16, 2);
    unfit(due, 0, 66, 0, 65, 0, 16, 2);
    fits(due, 0, 65, 0, 17, 1, 0);
    unfit(due, 0, 17, 1, 0);
    unfit(due, 0, 66, 0, 17, 1, 0);
    unfit(due, 0, 65, 0, 17, 3, 0);
    fits(due, I32, 66, 0, 65, 0, 65, 0, 17, 2, 0);
    unfit(due, I32, 66, 0, 65, 0, 17, 2, 0);
    unfit(due, I32, 65, 0, 65, 0, 65, 0, 17, 2, 0);
    is(due, "call_indirect without a TABLE", new Built().type(0).function(0, 65, 0, 17, 0, 0), INVALID);
    is(due, "call_indirect with a TABLE", new Built().type(0).function(0, 65, 0, 17, 0, 0).table(0), 1);
    is(due, "FUNCTION 1 of one", new Built().type(0).function(0, 16, 1), INVALID);
    is(due, "TYPE 1 of one", new Built().type(0).function(0, 65, 0, 17, 1, 0).table(0), INVALID);
    is(due, "a later FUNCTION", new Built().type(0).function(0, 16, 1).function(0), 1);
  }

  private static void variables(Due due) {
    int[] types = {I32, I64, I64, I32};
    for (int k = 0; k < 4; k++) {
      int type = types[k];
      int other = type == I32 ? I64 : I32;
      fits(due, type, 32, k);
      unfit(due, other, 32, k);
      fits(due, 0, join(put(type), new int[] {33, k}));
      unfit(due, 0, join(put(other), new int[] {33, k}));
      unfit(due, 0, 33, k);
      fits(due, type, join(put(type), new int[] {34, k}));
      unfit(due, 0, join(put(type), new int[] {34, k}));
      unfit(due, other, join(put(other), new int[] {34, k}));
      unfit(due, type, 34, k);
    }
    unfit(due, I32, 32, 4);
    unfit(due, 0, 65, 0, 33, 4);
    unfit(due, I32, 65, 0, 34, 4);
    fits(due, I32, 35, 0);
    fits(due, I64, 35, 1);
    unfit(due, I64, 35, 0);
    unfit(due, I32, 35, 2);
    fits(due, 0, 66, 0, 36, 1);
    unfit(due, 0, 65, 0, 36, 1);
    unfit(due, 0, 65, 0, 36, 0);
    unfit(due, 0, 66, 0, 36, 2);
    fits(due, I32, 65, 0, 65, 0, 65, 0, 27);
    fits(due, I64, 66, 0, 66, 0, 65, 0, 27);
    unfit(due, I64, 66, 0, 65, 0, 65, 0, 27);
    unfit(due, I64, 66, 0, 66, 0, 66, 0, 27);
    unfit(due, I64, 66, 0, 65, 0, 27);
  }

  /** Of each load and store: the worth of its bytes, as a power of 2. */
  private static final int[][] ACCESSES = {{40, I32, 2}, {41, I64, 3}, {44, I32, 0}, {45, I32, 0},
      {46, I32, 1}, {47, I32, 1}, {48, I64, 0}, {49, I64, 0}, {50, I64, 1}, {51, I64, 1}, {52, I64, 2},
      {53, I64, 2}, {54, I32, 2}, {55, I64, 3}, {58, I32, 0}, {59, I32, 1}, {60, I64, 0}, {61, I64, 1},
      {62, I64, 2}};

  private static void memoryUse(Due due) {
    for (int[] one : ACCESSES) {
      boolean store = one[0] >= 54;
      int gives = store ? 0 : one[1];
      int[] ready = store ? join(put(I32), put(one[1])) : put(I32);
      int other = one[1] == I32 ? I64 : I32;
      for (int align = 0; align < 10; align++) {
        code(due, align <= one[2] ? 1 : INVALID, gives, join(ready, new int[] {one[0], align, 0}));
      }
      unfit(due, gives, join(ready, new int[] {one[0], 0xA0, 1, 0}));
      unfit(due, gives, join(ready, new int[] {one[0], 0xFF, 0xFF, 0xFF, 0xFF, 15, 0}));
      fits(due, gives, join(ready, new int[] {one[0], 0, 0xFF, 0xFF, 0xFF, 0xFF, 15}));
      unfit(due, gives, one[0], 0, 0);
      unfit(due, gives, join(put(I64), store ? put(one[1]) : new int[0], new int[] {one[0], 0, 0}));
      if (store) {
        unfit(due, 0, join(put(I32), put(other), new int[] {one[0], 0, 0}));
        unfit(due, 0, join(put(one[1]), new int[] {one[0], 0, 0}));
      } else {
        unfit(due, other, join(ready, new int[] {one[0], 0, 0}));
      }
      Built none = new Built().type(gives).function(0, join(ready, new int[] {one[0], 0, 0}));
      is(due, "no MEMORY for " + one[0], none, INVALID);
    }
    fits(due, I32, 63, 0);
    unfit(due, I64, 63, 0);
    fits(due, I32, 65, 1, 64, 0);
    unfit(due, I32, 64, 0);
    unfit(due, I32, 66, 1, 64, 0);
    is(due, "no MEMORY for 63", new Built().type(I32).function(0, 63, 0), INVALID);
    is(due, "no MEMORY for 64", new Built().type(I32).function(0, 65, 0, 64, 0), INVALID);
  }

  /** Each FUNCTION's CODE counts, by its own TYPE. */
  private static void wholeCodes(Due due) {
    is(due, "the second is wrong", new Built().type(0).type(I32).function(0).function(1), INVALID);
    is(due, "the first is wrong", new Built().type(0).type(I32).function(1).function(0), INVALID);
    is(due, "both fit", new Built().type(0).type(I32).function(1, 65, 1).function(0), 1);
    is(due, "TYPES in another order", new Built().type(0).type(I32).function(0).function(1, 65, 1), 1);
  }
}
