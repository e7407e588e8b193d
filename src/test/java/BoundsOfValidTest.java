/** Promise 3: the bounds of what is VALID and of what is MADE of it, a sentence at a time. */
public final class BoundsOfValidTest {
  private static final int REFUSED = -2;
  private static final int INVALID = -3;
  private static final int NOT_MADE = -4;
  private static final int I32 = 127;
  private static final int I64 = 126;
  private static final int GREATEST = -1 >>> 1;

  public static void main(String[] args) {
    Due due = Due.begin();
    typeNumbers(due);
    oneAtMost(due);
    mostNotBelowLeast(due);
    neitherAbove(due);
    wholeOfEach(due);
    globals(due);
    exports(due);
    elements(due);
    order(due);
    taken(due);
    unknown(due);
    justWhatItGives(due);
    ifWithoutElse(due);
    labels(due);
    select(due);
    align(due);
    callIndirect(due);
    there(due);
    made(due);
    beyondTheTable(due);
    inOrder(due);
    due.end("BoundsOfValidTest");
  }

  private static void is(Due due, String what, Built built, int answer) {
    due.module(what, built.bytes(), answer, -1);
  }

  /** A FUNCTION of its own ARGUMENTS i32, i64, that gives as told; a MEMORY, a TABLE, GLOBALS, another FUNCTION. */
  private static void code(Due due, int answer, int gives, int... instructions) {
    StringBuilder what = new StringBuilder("gives " + gives + ":");
    for (int b : instructions) {
      what.append(' ').append(b);
    }
    Built built = new Built().type(gives, I32, I64).type(0).function(0, instructions).function(1).memory(1).table(1)
        .global(I32, 0, 65, 0).global(I64, 1, 66, 0);
    is(due, what.toString(), built, answer);
  }

  private static void fits(Due due, int gives, int... instructions) {
    code(due, 1, gives, instructions);
  }

  private static void unfit(Due due, int gives, int... instructions) {
    code(due, INVALID, gives, instructions);
  }

  private static void typeNumbers(Due due) {
    due.sentence("TYPE numbers of 3 are there;");
    for (int types = 0; types < 4; types++) {
      for (int number = 0; number < 5; number++) {
        Built built = new Built();
        for (int k = 0; k < types; k++) {
          built.type(0);
        }
        is(due, number + " of " + types, built.function(number), number < types ? 1 : INVALID);
      }
    }
    is(due, "the first of two is not there", new Built().type(0).function(1).function(0), INVALID);
    is(due, "the last of two is not there", new Built().type(0).function(0).function(1), INVALID);
    is(due, "a very great number", new Built().type(0).function(GREATEST), INVALID);
    is(due, "the greatest number", new Built().type(0).function(-1), INVALID);
    Built sixty = new Built();
    for (int k = 0; k < 60; k++) {
      sixty.type(0);
    }
    is(due, "59 of 60", sixty.function(59), 1);
    is(due, "60 of 60", sixty.function(60), INVALID);
  }

  private static void oneAtMost(Due due) {
    due.sentence("1 TABLE, 1 MEMORY at most;");
    for (int tables = 0; tables < 4; tables++) {
      for (int memories = 0; memories < 4; memories++) {
        Built built = new Built();
        for (int k = 0; k < tables; k++) {
          built.table(0);
        }
        for (int k = 0; k < memories; k++) {
          built.memory(0);
        }
        is(due, tables + " TABLES, " + memories + " MEMORIES", built, tables < 2 && memories < 2 ? 1 : INVALID);
      }
    }
  }

  private static void mostNotBelowLeast(Due due) {
    due.sentence("most not below least (else INVALID)");
    for (int least = 0; least <= 3; least++) {
      for (int most = 0; most <= 3; most++) {
        int answer = most < least ? INVALID : 1;
        is(due, "a TABLE of " + least + " to " + most, new Built().table(least, most), answer);
        answer = most < least ? INVALID : most > 2 ? REFUSED : 1;
        is(due, "a MEMORY of " + least + " to " + most, new Built().memory(least, most), answer);
      }
    }
    is(due, "a TABLE of 100 to 99", new Built().table(100, 99), INVALID);
    is(due, "most is without a sign", new Built().table(1, 4294967295L), REFUSED);
    is(due, "least is without a sign", new Built().table(4294967295L, 1), INVALID);
    is(due, "least is without a sign", new Built().memory(4294967295L, 1), INVALID);
    is(due, "both are the greatest", new Built().memory(4294967295L, 4294967295L), REFUSED);
  }

  private static void neitherAbove(Due due) {
    due.sentence("then neither above 100 of a TABLE, above 2 of a MEMORY (else REFUSED);");
    for (long n : new long[] {99, 100, 101, 102, 127, 128, 65536, 2147483648L, 4294967295L}) {
      is(due, "a TABLE of " + n, new Built().table(n), n <= 100 ? 1 : REFUSED);
      is(due, "a TABLE up to " + n, new Built().table(7, n), n <= 100 ? 1 : REFUSED);
      is(due, "a TABLE of both " + n, new Built().table(n, n), n <= 100 ? 1 : REFUSED);
    }
    for (long n : new long[] {0, 1, 2, 3, 4, 100, 65536, 2147483648L, 4294967295L}) {
      is(due, "a MEMORY of " + n, new Built().memory(n), n <= 2 ? 1 : REFUSED);
      is(due, "a MEMORY up to " + n, new Built().memory(0, n), n <= 2 ? 1 : REFUSED);
      is(due, "a MEMORY of both " + n, new Built().memory(n, n), n <= 2 ? 1 : REFUSED);
    }
  }

  private static void wholeOfEach(Due due) {
    due.sentence("LIMITS, each TABLE's whole, then each MEMORY's");
    is(due, "of a TABLE most below least comes first", new Built().table(103, 102), INVALID);
    is(due, "of a MEMORY most below least comes first", new Built().memory(5, 4), INVALID);
    is(due, "TABLE REFUSED, MEMORY INVALID", new Built().table(101).memory(1, 0), REFUSED);
    is(due, "TABLE INVALID, MEMORY REFUSED", new Built().table(1, 0).memory(3), INVALID);
    is(due, "TABLE fine, MEMORY INVALID", new Built().table(100).memory(1, 0), INVALID);
    is(due, "TABLE fine, MEMORY REFUSED", new Built().table(100).memory(3), REFUSED);
    is(due, "two MEMORIES, one REFUSED", new Built().memory(3).memory(1), INVALID);
  }

  private static void globals(Due due) {
    due.sentence("GLOBALS' CONSTANT EXPRESSIONS have their VALUE TYPE (35: of no GLOBAL: there are no imported ones, so it"
        + " is never VALID);");
    for (int type : new int[] {I32, I64}) {
      for (int op : new int[] {65, 66, 35}) {
        boolean like = type == I32 ? op == 65 : op == 66;
        is(due, type + " by " + op, new Built().global(type, 0, op, 0), like ? 1 : INVALID);
        is(due, type + " by " + op + ", the second", new Built().global(I32, 1, 65, 0).global(type, 0, op, 0),
            like ? 1 : INVALID);
        is(due, type + " by " + op + ", the first", new Built().global(type, 0, op, 0).global(I32, 1, 65, 0),
            like ? 1 : INVALID);
      }
    }
  }

  private static Built oneOfEach() {
    return new Built().type(0).function(0).function(0).table(1).memory(1).global(I32, 0, 65, 0).global(I32, 0, 65, 0)
        .global(I64, 0, 66, 0);
  }

  private static void exports(Due due) {
    due.sentence("EXPORTS: names unlike, numbers are there;");
    int[] there = {2, 1, 1, 3};
    for (int kind = 0; kind < 4; kind++) {
      for (int number = 0; number < 5; number++) {
        is(due, number + " of kind " + kind, oneOfEach().export("a", kind, number), number < there[kind] ? 1 : INVALID);
        is(due, "none of kind " + kind, new Built().export("a", kind, number), INVALID);
      }
      is(due, "a great one of kind " + kind, oneOfEach().export("a", kind, GREATEST), INVALID);
      is(due, "the greatest of kind " + kind, oneOfEach().export("a", kind, -1), INVALID);
    }
    String[] unlike = {"", "a", "b", "ab", "aa", "A", "a\u0000", "\u0080", "\u00FF"};
    Built all = oneOfEach();
    for (String name : unlike) {
      all.export(name, 0, 1);
    }
    is(due, "names unlike, things alike", all, 1);
    for (String name : unlike) {
      is(due, "two alike", oneOfEach().export(name, 0, 1).export(name, 3, 2), INVALID);
      is(due, "two alike, one between", oneOfEach().export(name, 0, 1).export("other", 0, 1).export(name, 0, 1), INVALID);
    }
    Built last = new Built().memory(1);
    for (int k = 0; k < 59; k++) {
      last.export("n" + k, 2, 0);
    }
    is(due, "60 unlike", last.export("n59", 2, 0), 1);
    Built like = new Built().memory(1);
    for (int k = 0; k < 59; k++) {
      like.export("n" + k, 2, 0);
    }
    is(due, "the 60th like the first", like.export("n0", 2, 0), INVALID);
  }

  private static void elements(Due due) {
    due.sentence("ELEMENTS: there is a TABLE, the expression is an i32, FUNCTIONS are there;");
    is(due, "a TABLE", new Built().table(0).element(65, 0), 1);
    is(due, "no TABLE", new Built().element(65, 0), INVALID);
    is(due, "no TABLE, a MEMORY", new Built().memory(1).element(65, 0), INVALID);
    is(due, "no ELEMENTS, no TABLE", new Built(), 1);
    is(due, "an i64", new Built().table(0).element(66, 0), INVALID);
    is(due, "the second an i64", new Built().table(0).element(65, 0).element(66, 0), INVALID);
    is(due, "the first an i64", new Built().table(0).element(66, 0).element(65, 0), INVALID);
    is(due, "a GLOBAL", new Built().table(9).global(I32, 0, 65, 0).element(35, 0), INVALID);
    for (int number = 0; number < 4; number++) {
      int answer = number < 2 ? 1 : INVALID;
      is(due, number + " of 2", oneOfEach().element(65, 0, number), answer);
      is(due, "no place for it", oneOfEach().element(65, 9, number), answer == 1 ? NOT_MADE : INVALID);
      is(due, number + " of 2, the last", new Built().type(0).function(0).function(0).table(9).element(65, 0, 0, 1, number),
          answer);
      is(due, number + " of 2, of the second", new Built().type(0).function(0).function(0).table(9).element(65, 0, 0)
          .element(65, 1, number, 0), answer);
    }
    is(due, "a very great number", oneOfEach().element(65, 0, GREATEST), INVALID);
    is(due, "the greatest number", oneOfEach().element(65, 0, -1), INVALID);
    is(due, "none of no FUNCTIONS", new Built().table(1).element(65, 0, 0), INVALID);
  }

  private static void order(Due due) {
    due.sentence("VALID is a MODULE, if, in this order:");
    is(due, "TYPE numbers ahead of LIMITS", new Built().type(0).function(1).memory(3), INVALID);
    is(due, "1 TABLE ahead of LIMITS", new Built().table(101).table(101), INVALID);
    is(due, "1 MEMORY ahead of LIMITS", new Built().memory(3).memory(3), INVALID);
    is(due, "LIMITS ahead of GLOBALS", new Built().memory(3).global(I32, 0, 66, 0), REFUSED);
    is(due, "LIMITS ahead of names", new Built().memory(3).export("a", 2, 0).export("a", 2, 0), REFUSED);
    is(due, "LIMITS ahead of numbers", new Built().memory(3).export("a", 2, 1), REFUSED);
    is(due, "LIMITS ahead of ELEMENTS", new Built().memory(3).element(65, 0), REFUSED);
    is(due, "LIMITS ahead of CODES", new Built().type(I32).function(0).memory(3), REFUSED);
    is(due, "VALID ahead of MADE", new Built().type(I32).function(0).table(0).element(65, 0, 0), INVALID);
    is(due, "REFUSED ahead of MADE", new Built().table(101).element(65, 102), REFUSED);
  }

  private static void taken(Due due) {
    due.sentence("what an INSTRUCTION takes must be on top of it, above where the innermost block began;");
    fits(due, I32, 65, 1, 65, 2, 106);
    unfit(due, I32, 65, 1, 106);
    unfit(due, I32, 106);
    unfit(due, I32, 66, 1, 65, 2, 106);
    unfit(due, I32, 65, 1, 66, 2, 106);
    // for each block: one beneath it is not to be taken in it, one within it is
    for (int op = 2; op <= 4; op++) {
      int[] opened = op == 4 ? new int[] {65, 0, 4, 64} : new int[] {op, 64};
      fits(due, I32, join(new int[] {65, 1}, opened, new int[] {65, 2, 26, 11}));
      unfit(due, 0, join(new int[] {65, 1}, opened, new int[] {26, 11}));
      unfit(due, I32, join(new int[] {65, 1}, opened, new int[] {65, 2, 106, 11}));
      unfit(due, I32, join(new int[] {65, 1}, opened, new int[] {65, 2, 106, 26, 11}));
      unfit(due, I32, join(new int[] {65, 1}, opened, new int[] {26, 65, 1, 11}));
      unfit(due, 0, join(new int[] {65, 1}, opened, new int[] {26, 0, 11}));
    }
    unfit(due, I32, 65, 1, 65, 0, 4, 64, 5, 26, 11);
    unfit(due, I32, 65, 1, 65, 0, 4, 64, 5, 26, 65, 1, 11);
    // behind the block what is beneath it may be taken, and what it gave
    fits(due, I32, 65, 1, 2, 64, 11, 65, 2, 106);
    fits(due, I32, 65, 1, 2, I32, 65, 2, 11, 106);
  }

  private static int[] join(int[]... parts) {
    int n = 0;
    for (int[] part : parts) {
      n += part.length;
    }
    int[] all = new int[n];
    n = 0;
    for (int[] part : parts) {
      System.arraycopy(part, 0, all, n, part.length);
      n += part.length;
    }
    return all;
  }

  private static void unknown(Due due) {
    due.sentence("behind unreachable, br, br_table, return up to the end of the block anything may be taken (UNKNOWN fits"
        + " each type) where nothing is left;");
    int[][] ends = {{0}, {12, 0}, {65, 0, 14, 0, 0}, {15}};
    int[][] goOn = {{1}, {65, 0, 13, 0}, {65, 0, 26}, {16, 1}, {65, 0, 4, 64, 0, 11}};
    int[][] takes = {{26}, {106, 26}, {124, 26}, {27, 26}, {33, 0}, {33, 1}, {36, 1}, {54, 0, 0}, {4, 64, 11}, {13, 0},
        {17, 1, 0}, {65, 0, 106, 26}, {66, 0, 124, 26}, {27, 106, 26}, {27, 124, 26}, {65, 0, 27, 124, 26},
        {66, 0, 65, 0, 27, 124, 26}, {106, 106, 26}, {14, 1, 0, 0}};
    for (int[] end : ends) {
      for (int[] take : takes) {
        fits(due, 0, join(end, take));
        fits(due, 0, join(new int[] {2, 64}, end, take, new int[] {11}));
        // up to the end of the block alone
        unfit(due, 0, join(new int[] {2, 64}, end, new int[] {11}, take));
        unfit(due, 0, join(new int[] {65, 0, 4, 64}, end, new int[] {5}, take, new int[] {11}));
        // a block behind it begins anew
        unfit(due, 0, join(end, new int[] {2, 64}, take, new int[] {11}));
      }
      fits(due, I32, join(new int[] {2, 64}, new int[] {0}, new int[] {11, 65, 1}));
      // what is left has its TYPE still
      unfit(due, 0, join(end, new int[] {66, 0, 106, 26}));
      unfit(due, 0, join(end, new int[] {65, 0, 124, 26}));
      unfit(due, 0, join(end, new int[] {66, 0, 27, 26}));
      unfit(due, 0, join(end, new int[] {106, 124, 26}));
      unfit(due, 0, join(end, new int[] {66, 0, 65, 0, 27, 106, 26}));
      // what is put behind it must go
      unfit(due, 0, join(end, new int[] {65, 0}));
      unfit(due, 0, join(end, new int[] {106}));
      // what stood ahead of it is gone
      fits(due, 0, join(new int[] {65, 0, 66, 0}, end));
    }
    // a block, and a CODE, that comes behind such a one begins anew
    unfit(due, 0, 2, 64, 0, 11, 2, 64, 26, 11);
    unfit(due, 0, 2, 64, 2, 64, 0, 11, 11, 2, 64, 2, 64, 26, 11, 11);
    is(due, "a CODE behind one that ends so", new Built().type(0).function(0, 0).function(0, 26), INVALID);
    is(due, "a CODE ahead of one that ends so", new Built().type(0).function(0, 26).function(0, 0), INVALID);
    is(due, "two CODES that end so", new Built().type(0).function(0, 0, 26).function(0, 0, 26), 1);
    for (int[] one : goOn) {
      unfit(due, 0, join(one, new int[] {26}));
      unfit(due, 0, join(one, new int[] {106, 26}));
    }
  }

  private static void justWhatItGives(Due due) {
    due.sentence("at 5 and 11 there must be just what the block gives");
    int[] none = {};
    int[] small = {65, 1};
    int[] great = {66, 1};
    int[][] all = {none, small, great, join(small, small), join(great, small), join(small, great)};
    int[] types = {64, I32, I64};
    for (int type = 0; type < 3; type++) {
      int gives = types[type] == 64 ? 0 : types[type];
      for (int k = 0; k < all.length; k++) {
        int answer = k == type ? 1 : INVALID;
        code(due, answer, gives, all[k]);
        for (int op = 2; op <= 3; op++) {
          code(due, answer, gives, join(new int[] {op, types[type]}, all[k], new int[] {11}));
        }
        int[] ahead = {65, 0, 4, types[type]};
        code(due, answer, gives, join(ahead, all[k], new int[] {5}, all[type], new int[] {11}));
        code(due, answer, gives, join(ahead, all[type], new int[] {5}, all[k], new int[] {11}));
      }
    }
  }

  private static void ifWithoutElse(Due due) {
    due.sentence("(if without 5 gives nothing)");
    fits(due, 0, 65, 0, 4, 64, 11);
    fits(due, 0, 65, 0, 4, 64, 5, 11);
    for (int type : new int[] {I32, I64}) {
      int[] one = type == I32 ? new int[] {65, 1} : new int[] {66, 1};
      unfit(due, type, join(new int[] {65, 0, 4, type}, one, new int[] {11}));
      unfit(due, 0, join(new int[] {65, 0, 4, type}, one, new int[] {11}));
      unfit(due, 0, join(new int[] {65, 0, 4, type}, one, new int[] {11, 26}));
      unfit(due, type, 65, 0, 4, type, 0, 11);
      fits(due, type, join(new int[] {65, 0, 4, type}, one, new int[] {5}, one, new int[] {11}));
      fits(due, type, 65, 0, 4, type, 0, 5, 0, 11);
    }
  }

  private static void labels(Due due) {
    due.sentence("br to a block needs what it gives (to a loop: nothing), br_table the same for all;");
    int[][] values = {{}, {65, 1}, {66, 1}};
    int[] types = {64, I32, I64};
    for (int type = 0; type < 3; type++) {
      int gives = types[type] == 64 ? 0 : types[type];
      for (int k = 0; k < 3; k++) {
        int answer = k == type ? 1 : INVALID;
        // to a block, an if, the FUNCTION: what it gives must be on top, more may be beneath
        int leaves = type == 0 ? 1 : answer;
        code(due, leaves, gives, join(values[k], new int[] {12, 0}));
        code(due, leaves, gives, join(new int[] {2, types[type]}, values[k], new int[] {12, 0, 11}));
        code(due, leaves, gives, join(new int[] {65, 0, 4, types[type]}, values[k], new int[] {12, 0, 5}, values[type],
            new int[] {11}));
        code(due, leaves, gives, join(new int[] {2, types[type]}, values[k], new int[] {65, 0, 14, 1, 0, 1, 11}));
        code(due, answer, gives, join(values[k], new int[] {65, 0, 13, 0}));
        code(due, leaves, gives, join(values[3 - Math.max(type, 1)], values[k], new int[] {12, 0}));
        // to a loop: nothing
        code(due, 1, gives, join(new int[] {3, types[type]}, values[k], new int[] {12, 0, 11}));
        int put = k == type ? 1 : INVALID;
        code(due, put, gives, join(new int[] {3, types[type], 65, 0, 13, 0}, values[k], new int[] {11}));
      }
    }
    // one more than needs be stays beneath: br may leave it, br_if not
    fits(due, I32, 65, 1, 65, 2, 12, 0);
    unfit(due, I32, 65, 1, 65, 2, 65, 0, 13, 0);
    fits(due, I32, 65, 1, 65, 2, 65, 0, 13, 0, 106);
    unfit(due, I32, 2, 64, 65, 1, 65, 0, 14, 1, 0, 1, 11, 65, 0);
    unfit(due, I32, 2, I64, 66, 1, 65, 0, 14, 1, 0, 1, 11, 167);
    unfit(due, I32, 2, I64, 66, 1, 65, 0, 14, 1, 1, 0, 11, 167);
    unfit(due, I32, 3, I32, 65, 1, 65, 0, 14, 1, 0, 1, 11);
    fits(due, 0, 3, 64, 65, 0, 14, 1, 0, 1, 11);
    fits(due, I32, 2, I32, 65, 1, 65, 0, 14, 3, 0, 1, 0, 1, 11);
    unfit(due, I32, 2, I32, 3, 64, 65, 1, 65, 0, 14, 3, 1, 2, 0, 1, 11, 65, 1, 11);
  }

  private static void select(Due due) {
    due.sentence("select takes two of one type;");
    fits(due, I32, 65, 1, 65, 2, 65, 0, 27);
    fits(due, I64, 66, 1, 66, 2, 65, 0, 27);
    unfit(due, I32, 65, 1, 66, 2, 65, 0, 27);
    unfit(due, I64, 65, 1, 66, 2, 65, 0, 27);
    unfit(due, I32, 66, 1, 65, 2, 65, 0, 27);
    unfit(due, I64, 66, 1, 65, 2, 65, 0, 27);
    unfit(due, I32, 65, 1, 65, 2, 66, 0, 27);
    unfit(due, I32, 65, 1, 65, 0, 27);
    unfit(due, I32, 65, 0, 27);
    unfit(due, I64, 65, 1, 65, 2, 65, 0, 27);
  }

  private static void align(Due due) {
    due.sentence("ALIGN is not above the worth of its bytes (2 to the ALIGN), there is a MEMORY;");
    int[][] all = {{40, 4}, {41, 8}, {44, 1}, {45, 1}, {46, 2}, {47, 2}, {48, 1}, {49, 1}, {50, 2}, {51, 2}, {52, 4},
        {53, 4}, {54, 4}, {55, 8}, {58, 1}, {59, 2}, {60, 1}, {61, 2}, {62, 4}};
    for (int[] one : all) {
      // behind unreachable each has what it takes; then another one lets go what it puts
      for (int align = 0; align < 128; align++) {
        boolean may = align < 4 && 1 << align <= one[1];
        code(due, may ? 1 : INVALID, 0, 0, one[0], align, 0, 0);
      }
      int log = one[1] == 8 ? 3 : one[1] / 2;
      code(due, 1, 0, 0, one[0], 0x80 | log, 0, 0, 0);
      code(due, INVALID, 0, 0, one[0], 0x80 | log + 1, 0, 0, 0);
      code(due, INVALID, 0, 0, one[0], 0x80 | 32, 0, 0, 0);
      code(due, INVALID, 0, 0, one[0], 0x80, 1, 0, 0);
      code(due, INVALID, 0, 0, one[0], 0x80, 0x80, 0x80, 0x80, 1, 0, 0);
      code(due, INVALID, 0, 0, one[0], 0xFF, 0xFF, 0xFF, 0xFF, 15, 0, 0);
      is(due, one[0] + " without a MEMORY", new Built().type(0).function(0, 0, one[0], 0, 0, 0), INVALID);
      is(due, one[0] + " with a TABLE", new Built().table(1).type(0).function(0, 0, one[0], 0, 0, 0), INVALID);
      is(due, one[0] + " with a MEMORY of none", new Built().memory(0).type(0).function(0, 0, one[0], 0, 0, 0), 1);
    }
    for (int op = 63; op <= 64; op++) {
      is(due, op + " without a MEMORY", new Built().type(0).function(0, 0, op, 0, 0), INVALID);
      is(due, op + " with a MEMORY", new Built().memory(0).type(0).function(0, 0, op, 0, 0), 1);
    }
  }

  private static void callIndirect(Due due) {
    due.sentence("call_indirect: there is a TABLE, the TYPE;");
    for (int number = 0; number < 4; number++) {
      Built built = new Built().type(0).type(0).function(0, 65, 0, 17, number, 0).table(0);
      is(due, number + " of 2", built, number < 2 ? 1 : INVALID);
      built = new Built().type(0).type(0).function(0, 65, 0, 17, number, 0);
      is(due, number + " of 2, no TABLE", built, INVALID);
      built = new Built().type(0).type(0).function(0, 0, 17, number, 0).table(0);
      is(due, number + " of 2, behind the end", built, number < 2 ? 1 : INVALID);
    }
    Built great = new Built().type(0).function(0, 65, 0, 17, 0xFF, 0xFF, 0xFF, 0xFF, 15, 0).table(0);
    is(due, "the greatest", great, INVALID);
    is(due, "no TABLE, a MEMORY", new Built().type(0).function(0, 65, 0, 17, 0, 0).memory(1), INVALID);
  }

  private static void there(Due due) {
    due.sentence("LOCALS, GLOBALS (set: those that may be), FUNCTIONS, labels are there.");
    byte[] locals = Due.bytes(2, 1, I32, 2, I64);
    for (int number = 0; number < 8; number++) {
      int answer = number < 5 ? 1 : INVALID;
      for (int op = 32; op <= 34; op++) {
        Built built = new Built().type(0, I32, I64).function(0, locals, Due.bytes(0, op, number, 0));
        is(due, op + ": LOCAL " + number + " of 5", built, answer);
      }
      Built two = new Built().global(I32, 0, 65, 0).global(I32, 1, 65, 0).global(I32, 0, 65, 0).type(0);
      is(due, "GLOBAL " + number + " of 3", two.function(0, 35, number, 26), number < 3 ? 1 : INVALID);
      two = new Built().global(I32, 0, 65, 0).global(I32, 1, 65, 0).global(I32, 0, 65, 0).type(0);
      is(due, "set of GLOBAL " + number + " of 3", two.function(0, 65, 0, 36, number), number == 1 ? 1 : INVALID);
      Built three = new Built().type(0).function(0).function(0, 16, number).function(0);
      is(due, "FUNCTION " + number + " of 3", three, number < 3 ? 1 : INVALID);
      Built in = new Built().type(0).function(0, 2, 64, 3, 64, 65, 0, 4, 64, 12, number, 11, 11, 11);
      is(due, "label " + number + " of 4", in, number < 4 ? 1 : INVALID);
      in = new Built().type(0).function(0, 2, 64, 3, 64, 65, 0, 13, number, 11, 11);
      is(due, "br_if, label " + number + " of 3", in, number < 3 ? 1 : INVALID);
      in = new Built().type(0).function(0, 2, 64, 65, 0, 14, 1, 0, number, 11);
      is(due, "br_table, last label " + number + " of 2", in, number < 2 ? 1 : INVALID);
      in = new Built().type(0).function(0, 2, 64, 65, 0, 14, 2, number, 0, 0, 11);
      is(due, "br_table, first label " + number + " of 2", in, number < 2 ? 1 : INVALID);
      in = new Built().type(0).function(0, 2, 64, 65, 0, 14, 2, 0, number, 0, 11);
      is(due, "br_table, second label " + number + " of 2", in, number < 2 ? 1 : INVALID);
      in = new Built().type(0).function(0, 2, 64, 2, 64, 11, 11, 0, 12, number);
      is(due, "blocks that are closed have no label: " + number, in, number < 1 ? 1 : INVALID);
    }
    // each CODE has LOCALS of its own
    byte[] small = Due.bytes(1, 50, I32);
    byte[] great = Due.bytes(1, 50, I64);
    Built both = new Built().type(I32).type(I64).function(0, small, Due.bytes(32, 49)).function(1, great,
        Due.bytes(32, 49)).function(0, small, Due.bytes(32, 0));
    is(due, "LOCALS of each CODE", both, 1);
    both = new Built().type(I32).function(0, small, Due.bytes(32, 49)).function(0, great, Due.bytes(32, 49));
    is(due, "LOCALS of the second CODE", both, INVALID);
    both = new Built().type(I32).function(0, great, Due.bytes(32, 0)).function(0, small, Due.bytes(32, 0));
    is(due, "LOCALS of the first CODE", both, INVALID);
    both = new Built().type(I32).function(0, small, Due.bytes(32, 49)).function(0, 32, 0);
    is(due, "no LOCALS of the second CODE", both, INVALID);
    int[] greatest = {0xFF, 0xFF, 0xFF, 0xFF, 15};
    int[] half = {0x80, 0x80, 0x80, 0x80, 8};
    for (int[] number : new int[][] {greatest, half}) {
      for (int op : new int[] {12, 13, 16, 32, 33, 34, 35, 36}) {
        code(due, INVALID, 0, join(new int[] {0, op}, number, new int[] {0}));
      }
      code(due, INVALID, 0, join(new int[] {0, 14, 0}, number));
      code(due, INVALID, 0, join(new int[] {0, 14, 1}, number, new int[] {0}));
    }
  }

  private static void made(Due due) {
    due.sentence("Then it is MADE: GLOBALS as told, MEMORY of least pages (65536 bytes, 0), TABLE of least places;");
    for (int pages = 0; pages <= 2; pages++) {
      FoldForge x = new FoldForge();
      due.is("module", Due.module(x, new Built().memory(pages, 2).table(pages * 50, 100).bytes()), 1);
      due.is("pages", x.count(3), pages);
      due.is("places", x.count(2), 50 * pages);
      due.is("its last byte", x.memory(65536 * pages - 1), pages == 0 ? -1 : 0);
      due.is("behind it", x.memory(65536 * pages), -1);
      due.is("its last place", x.table(50 * pages - 1), pages == 0 ? -2 : -1);
      due.is("behind it", x.table(50 * pages), -2);
    }
    FoldForge x = new FoldForge();
    byte[] all = new Built().global(I32, 0, 65, Integer.MIN_VALUE).global(I32, 1, 65, Integer.MAX_VALUE)
        .global(I64, 0, 66, Long.MIN_VALUE).global(I64, 1, 66, Long.MAX_VALUE).global(I32, 0, 65, 0).bytes();
    due.is("module", Due.module(x, all), 1);
    long[] told = {Integer.MIN_VALUE, Integer.MAX_VALUE, Long.MIN_VALUE, Long.MAX_VALUE, 0};
    for (int k = 0; k < 5; k++) {
      due.is("GLOBAL " + k, x.global(k), told[k]);
    }
  }

  private static void beyondTheTable(Due due) {
    due.sentence("an offset (without sign) and how many are beyond the TABLE: TRAP 5 ahead of all (the MODULE is not"
        + " kept);");
    for (int places = 0; places <= 3; places++) {
      for (int offset = -2; offset <= 4; offset++) {
        for (int many = 0; many <= 4; many++) {
          Built built = new Built().type(0).function(0).table(places, 100).element(65, offset, new int[many]);
          boolean may = offset >= 0 && offset + many <= places;
          is(due, many + " at " + offset + " of " + places, built, may ? 1 : NOT_MADE);
        }
      }
    }
    int[] far = {Integer.MIN_VALUE, Integer.MAX_VALUE, 100, 101, -100};
    for (int offset : far) {
      is(due, "none at " + offset, new Built().table(100).element(65, offset), offset == 100 ? 1 : NOT_MADE);
      is(due, "one at " + offset, new Built().type(0).function(0).table(100).element(65, offset, 0), NOT_MADE);
    }
    is(due, "one at 99", new Built().type(0).function(0).table(100).element(65, 99, 0), 1);
    // ahead of all: where the last one is beyond, nothing of the first one is kept
    FoldForge x = new FoldForge();
    due.is("module", Due.module(x, new Built().type(0).function(0).table(2).memory(1).bytes()), 1);
    Built last = new Built().type(0).function(0).table(2).memory(2).global(I32, 0, 65, 5).element(65, 0, 0)
        .element(65, 2, 0);
    due.is("the last one is beyond", Due.module(x, last.bytes()), NOT_MADE);
    due.is("place", x.place(), -1);
    due.is("its TABLE", x.table(0), -1);
    due.is("its GLOBALS", x.count(4), 0);
    due.is("its MEMORY", x.count(3), 1);
    due.is("no RUN has met it", x.outcome(2), 0);
    Built first = new Built().type(0).function(0).table(2).element(65, 2, 0).element(65, 0, 0);
    due.is("the first one is beyond", Due.module(x, first.bytes()), NOT_MADE);
    due.is("its TABLE", x.table(0), -1);
  }

  private static void inOrder(Due due) {
    due.sentence("else they stand there, in order.");
    Built built = new Built().type(0).table(5);
    for (int k = 0; k < 6; k++) {
      built.function(0);
    }
    built.element(65, 0, 1, 2, 3).element(65, 2, 4, 5).element(65, 1, 0).element(65, 5);
    FoldForge x = new FoldForge();
    due.is("module", Due.module(x, built.bytes()), 1);
    int[] wanted = {1, 0, 4, 5, -1};
    for (int k = 0; k < 5; k++) {
      due.is("place " + k, x.table(k), wanted[k]);
    }
  }
}
