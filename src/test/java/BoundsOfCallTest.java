/** Promises 9, 14 and 15: the bounds of RUNS of a PROGRAM's FUNCTION, a sentence at a time. */
public final class BoundsOfCallTest {
  private static final int LEAST = Integer.MIN_VALUE;
  private static final int MOST = Integer.MAX_VALUE;

  public static void main(String[] args) {
    Due due = Due.begin();
    whatIsCalled(due);
    lowBits(due);
    answers(due);
    leftToRight(due);
    chosenAlone(due);
    wraps(due);
    towardsZero(due);
    comparisons(due);
    ifNotZero(due);
    whatTheActIs(due);
    notDoneNorCounted(due);
    divisionByZero(due);
    cons501(due);
    nested61(due);
    calls5001(due);
    lesserNumber(due);
    leastByMinusOne(due);
    spentAfterwards(due);
    due.end("BoundsOfCallTest");
  }

  private static FoldForge of(Due due, String text, int definitions) {
    FoldForge x = new FoldForge();
    due.is(text, Due.program(x, text), definitions);
    return x;
  }

  /** The E of a FUNCTION of two int, behind another one. */
  private static FoldForge e(Due due, String text) {
    return of(due, "fun f(a: int, b: int): int = " + text + "; fun bad(a: int): int = 1 / (a - a);"
        + "fun deep(a: int): int = deep(a); fun inc(a: int): int = a + 1; fun two(a: int, b: int): int = a * 100 + b;", 5);
  }

  private static void gives(Due due, FoldForge x, long a, long b, int wanted) {
    String what = "with " + a + ", " + b;
    x.argument(0, a);
    x.argument(1, b);
    due.is(what, x.call(0), 0);
    due.is(what + " gives", x.outcome(0), wanted);
    due.is(what + " meets", x.outcome(2), 0);
  }

  private static void error(Due due, FoldForge x, long a, long b, int wanted) {
    String what = "with " + a + ", " + b;
    x.argument(0, a);
    x.argument(1, b);
    due.is(what, x.call(0), 2);
    due.is(what + " gives", x.outcome(0), 0);
    due.is(what + " meets", x.outcome(2), wanted);
  }

  private static void spends(Due due, FoldForge x, int conses, int calls, int deepest) {
    due.is("cons", x.spent(0), conses);
    due.is("CALLS", x.spent(1), calls);
    due.is("in one another", x.spent(2), deepest);
  }

  private static void whatIsCalled(Due due) {
    due.sentence("-1: no such FUNCTION, or one that takes or gives something but int.");
    String[] types = {"int", "list", "act"};
    String[] values = {"1", "nil", "&f0"};
    FoldForge x = new FoldForge();
    due.is("without a PROGRAM", x.call(0), -1);
    for (int takes = 1; takes <= 4; takes++) {
      StringBuilder text = new StringBuilder("fun f0(a: int): int = 1;");
      int count = 1;
      int[] wanted = new int[20];
      // each ARGUMENT in turn is a list, an act; then what it gives
      for (int odd = 0; odd <= takes; odd++) {
        for (int type = 0; type < 3; type++) {
          text.append("fun f").append(count).append("(");
          for (int k = 0; k < takes; k++) {
            text.append(k == 0 ? "" : ",").append("a").append(k).append(":").append(types[k == odd ? type : 0]);
          }
          text.append("):").append(types[odd == takes ? type : 0]).append("=").append(values[odd == takes ? type : 0])
              .append(";");
          wanted[count] = type == 0 ? 0 : -1;
          count++;
        }
      }
      x = of(due, text.toString(), count);
      for (int f = 0; f < count; f++) {
        due.is("FUNCTION " + f, x.call(f), wanted[f]);
      }
      for (int f : new int[] {-1, count, count + 1, 20, 100, LEAST, MOST}) {
        due.is("FUNCTION " + f, x.call(f), -1);
      }
    }
    StringBuilder twenty = new StringBuilder();
    for (int k = 0; k < 20; k++) {
      twenty.append("fun f").append(k).append("(a: int): int = ").append(k).append(";");
    }
    x = of(due, twenty.toString(), 20);
    for (int f = 0; f < 20; f++) {
      due.is("FUNCTION " + f, x.call(f), 0);
      due.is("from 0, as told", x.outcome(0), f);
    }
    due.is("FUNCTION 20", x.call(20), -1);
    x = of(due, "fun f(a: int): int = 5;", 1);
    due.is("another PROGRAM of two", Due.program(x, "fun g(a: int): int = 6; fun h(a: int): int = 7;"), 2);
    due.is("FUNCTION 1", x.call(1), 0);
    due.is("another PROGRAM of one", Due.program(x, "fun g(a: int): int = 6;"), 1);
    due.is("FUNCTION 1 is there no more", x.call(1), -1);
  }

  private static void lowBits(Due due) {
    due.sentence("is RUN with ARGUMENTS as told (their low 32 bits)");
    FoldForge x = of(due, "fun f(a: int, b: int, c: int, d: int): int = a; fun g(a: int, b: int, c: int, d: int): int = d;",
        2);
    long[] all = {0, 1, -1, LEAST, MOST, 1L << 31, 1L << 32, 0xFFFFFFFFL, 0x1_7FFF_FFFFL, Long.MIN_VALUE, Long.MAX_VALUE};
    for (long v : all) {
      x.argument(0, v);
      x.argument(3, v + 1);
      due.is("call", x.call(0), 0);
      due.is("the first of " + v, x.outcome(0), (int) v);
      due.is("call", x.call(1), 0);
      due.is("the fourth of " + (v + 1), x.outcome(0), (int) (v + 1));
    }
  }

  private static void answers(Due due) {
    due.sentence("0 it ended, 2 a NAMED ERROR.");
    FoldForge x = e(due, "10 / a");
    int[] all = {1, 0, -1, 0};
    for (int a : all) {
      x.argument(0, a);
      due.is("call with " + a, x.call(0), a == 0 ? 2 : 0);
      due.is("call with " + a + ": which", x.outcome(2), a == 0 ? 1 : 0);
      due.is("call with " + a + ": gives", x.outcome(0), a == 0 ? 0 : 10 / a);
    }
  }

  private static void leftToRight(Due due) {
    due.sentence("arguments and parts from left to right, each before what takes it");
    for (String sign : "+ - * / % < ==".split(" ")) {
      error(due, e(due, "bad(a) " + sign + " deep(a)"), 0, 0, 1);
      error(due, e(due, "deep(a) " + sign + " bad(a)"), 0, 0, 3);
    }
    error(due, e(due, "two(bad(a), deep(a))"), 0, 0, 1);
    error(due, e(due, "two(deep(a), bad(a))"), 0, 0, 3);
    error(due, e(due, "do(if bad(a) then &inc else &inc, deep(a))"), 0, 0, 1);
    error(due, e(due, "do(if deep(a) then &inc else &inc, bad(a))"), 0, 0, 3);
    error(due, e(due, "match cons(bad(a), cons(deep(a), nil)) with nil -> 0 | h, t -> 0"), 0, 0, 1);
    error(due, e(due, "match cons(deep(a), cons(bad(a), nil)) with nil -> 0 | h, t -> 0"), 0, 0, 3);
    error(due, e(due, "let c = bad(a) in deep(a)"), 0, 0, 1);
    error(due, e(due, "if bad(a) then deep(a) else deep(a)"), 0, 0, 1);
    error(due, e(due, "if deep(a) then bad(a) else bad(a)"), 0, 0, 3);
    // what is not used is done all the same
    error(due, e(due, "let c = bad(a) in 1"), 0, 0, 1);
    error(due, e(due, "0 * bad(a)"), 0, 0, 1);
    error(due, e(due, "two(1, bad(a)) * 0"), 0, 0, 1);
    // each before what takes it: an ERROR in an ARGUMENT comes ahead of the CALL
    FoldForge x = e(due, "two(1, 1 / a)");
    error(due, x, 0, 0, 1);
    spends(due, x, 0, 1, 1);
    gives(due, x, 1, 0, 101);
    spends(due, x, 0, 2, 2);
    gives(due, e(due, "two(inc(a), inc(inc(b)))"), 1, 2, 204);
  }

  private static void chosenAlone(Due due) {
    due.sentence("(if, match: the chosen part alone).");
    FoldForge x = e(due, "if a then 5 else bad(a)");
    gives(due, x, 1, 0, 5);
    error(due, x, 0, 0, 1);
    x = e(due, "if a then bad(a) else 5");
    gives(due, x, 0, 0, 5);
    error(due, x, 1, 0, 1);
    x = e(due, "match (if a then nil else cons(b, nil)) with nil -> 5 | h, t -> bad(h)");
    gives(due, x, 1, 0, 5);
    error(due, x, 0, 0, 1);
    x = e(due, "match (if a then nil else cons(b, nil)) with nil -> bad(a) | h, t -> h");
    gives(due, x, 0, 7, 7);
    error(due, x, 1, 0, 1);
    x = e(due, "(if a then inc(b) else two(inc(a), b)) + (match nil with nil -> 1 | h, t -> inc(h))");
    gives(due, x, 1, 4, 6);
    spends(due, x, 0, 2, 2);
    gives(due, x, 0, 4, 105);
    spends(due, x, 0, 3, 2);
  }

  private static void wraps(Due due) {
    due.sentence("int wraps;");
    gives(due, e(due, "a + b"), MOST, 1, LEAST);
    gives(due, e(due, "a + b"), LEAST, -1, MOST);
    gives(due, e(due, "a - b"), LEAST, 1, MOST);
    gives(due, e(due, "a - b"), MOST, -1, LEAST);
    gives(due, e(due, "a * b"), MOST, 2, -2);
    gives(due, e(due, "a * b"), 65536, 32768, LEAST);
    gives(due, e(due, "a * b"), 65536, 65536, 0);
    gives(due, e(due, "a * b"), LEAST, -1, LEAST);
    gives(due, e(due, "-a"), LEAST, 0, LEAST);
    gives(due, e(due, "-a"), MOST, 0, LEAST + 1);
    gives(due, e(due, "2147483647 + 1"), 0, 0, LEAST);
    gives(due, e(due, "-2147483647 - 2"), 0, 0, MOST);
    gives(due, e(due, "a - b < 0"), LEAST, 1, 0);
  }

  private static void towardsZero(Due due) {
    due.sentence("/ towards 0, % with the sign of the left one;");
    int[][] all = {{7, 2, 3, 1}, {-7, 2, -3, -1}, {7, -2, -3, 1}, {-7, -2, 3, -1}, {1, 2, 0, 1}, {-1, 2, 0, -1},
        {LEAST, 2, LEAST / 2, 0}, {LEAST, 3, -715827882, -2}, {MOST, LEAST, 0, MOST}, {LEAST, MOST, -1, -1},
        {LEAST, LEAST, 1, 0}, {LEAST, 1, LEAST, 0}, {0, -5, 0, 0}, {6, 3, 2, 0}, {-6, 3, -2, 0}};
    FoldForge over = e(due, "a / b");
    FoldForge rest = e(due, "a % b");
    for (int[] one : all) {
      gives(due, over, one[0], one[1], one[2]);
      gives(due, rest, one[0], one[1], one[3]);
    }
  }

  private static void comparisons(Due due) {
    due.sentence("< == 1 or 0;");
    int[] all = {LEAST, LEAST + 1, -2, -1, 0, 1, 2, MOST - 1, MOST};
    FoldForge less = e(due, "a < b");
    FoldForge same = e(due, "a == b");
    for (int a : all) {
      for (int b : all) {
        gives(due, less, a, b, a < b ? 1 : 0);
        gives(due, same, a, b, a == b ? 1 : 0);
      }
    }
  }

  private static void ifNotZero(Due due) {
    due.sentence("if: not 0.");
    FoldForge x = e(due, "if a then 5 else 6");
    for (int a : new int[] {1, -1, 2, 256, 65536, LEAST, MOST}) {
      gives(due, x, a, 0, 5);
    }
    gives(due, x, 0, 0, 6);
    gives(due, x, 1L << 32, 0, 6);
    gives(due, x, Long.MIN_VALUE, 0, 6);
  }

  private static void whatTheActIs(Due due) {
    due.sentence("do calls what the act is.");
    FoldForge x = of(due, "fun f(a: int, b: int): int = do(pick(a), b) * 10 + do(if a then &dec else &inc, b);"
        + "fun inc(a: int): int = a + 1; fun dec(a: int): int = a - 1; fun pick(a: int): act = if a then &inc else &dec;"
        + "fun last(a: int): int = a * 2;", 5);
    gives(due, x, 1, 5, 64);
    gives(due, x, 0, 5, 46);
    spends(due, x, 0, 4, 2);
    gives(due, of(due, "fun f(a: int, b: int): int = use(&f0, a) + use(&g, b); fun f0(a: int): int = 7;"
        + "fun use(x: act, a: int): int = let y = x in do(y, a); fun g(a: int): int = a * 2;", 4), 1, 5, 17);
  }

  private static void notDoneNorCounted(Due due) {
    due.sentence("What is an ERROR is not done, nor counted.");
    FoldForge x = of(due, "fun f(n: int, b: int): int = if n < 1 then 1 else f(n - 1, b) + 1;", 1);
    error(due, x, 60, 0, 3);
    spends(due, x, 0, 60, 60);
    error(due, x, 1000, 0, 3);
    spends(due, x, 0, 60, 60);
    FoldForge act = of(due, "fun f(n: int): int = do(&f, n);", 1);
    error(due, act, 60, 0, 3);
    spends(due, act, 0, 60, 60);
    FoldForge cons = conses(due);
    error(due, cons, 501, 0, 2);
    due.is("cons", cons.spent(0), 500);
    FoldForge zero = e(due, "match cons(inc(a), nil) with nil -> 0 | h, t -> inc(inc(h) / b)");
    error(due, zero, 1, 0, 1);
    spends(due, zero, 1, 3, 2);
  }

  private static void divisionByZero(Due due) {
    due.sentence("1 a division (/ or %) by 0;");
    for (String sign : "/ %".split(" ")) {
      FoldForge x = e(due, "a " + sign + " b");
      for (int a : new int[] {0, 1, -1, LEAST, MOST}) {
        error(due, x, a, 0, 1);
        error(due, x, a, 1L << 32, 1);
        gives(due, x, a, 1, sign.equals("/") ? a : 0);
      }
      error(due, e(due, "inc(a) " + sign + " (b - b)"), 1, 5, 1);
      error(due, e(due, "0 " + sign + " 0"), 1, 5, 1);
    }
  }

  /** f(n) has n cons, of which 25 at most are done in one FUNCTION's CALLS in one another. */
  private static FoldForge conses(Due due) {
    return of(due, "fun f(n: int, b: int): int = many(n / 25) + some(n % 25);"
        + "fun many(n: int): int = if n < 1 then 0 else some(25) + many(n - 1);"
        + "fun some(n: int): int = if n < 1 then 0 else match cons(n, nil) with nil -> 0 | h, t -> 1 + some(n - 1);", 3);
  }

  private static void cons501(Due due) {
    due.sentence("2 the 501st cons of the RUN;");
    FoldForge x = conses(due);
    for (int n : new int[] {0, 1, 499, 500}) {
      gives(due, x, n, 0, n);
      due.is("cons of " + n, x.spent(0), n);
    }
    for (int n : new int[] {501, 502, 600}) {
      error(due, x, n, 0, 2);
      due.is("cons of " + n, x.spent(0), 500);
    }
    // each RUN begins anew
    gives(due, x, 500, 0, 500);
    // each of a list's 500 is there still
    FoldForge list = of(due, "fun f(n: int, b: int): int = sum(make(n));"
        + "fun make(n: int): list = if n < 1 then nil else cons(n, cons(n, cons(n, cons(n, cons(n, cons(n, cons(n, cons(n,"
        + "cons(n, cons(n, make(n - 1)))))))))));"
        + "fun sum(l: list): int = match l with nil -> 0 | h, l -> match l with nil -> 0 | i, l -> match l with nil -> 0 |"
        + "j, l -> match l with nil -> 0 | k, l -> match l with nil -> 0 | o, l -> h + i + j + k + o + half(l);"
        + "fun half(l: list): int = match l with nil -> 0 | h, l -> match l with nil -> 0 | i, l -> match l with nil -> 0 |"
        + "j, l -> match l with nil -> 0 | k, l -> match l with nil -> 0 | o, l -> h + i + j + k + o + more(l);"
        + "fun more(l: list): int = match l with nil -> 0 | h, t -> h * 1000000;", 5);
    gives(due, list, 1, 0, 10);
    gives(due, list, 50, 0, 500 + 49000000);
    due.is("cons", list.spent(0), 500);
    error(due, list, 51, 0, 2);
  }

  private static void nested61(Due due) {
    due.sentence("3 the 61st CALL in one another (the first one counts; do, too);");
    String[] all = {"f(n - 1, b)", "f(n - 1, b) + 0", "do(&g, n - 1)", "g(n - 1)"};
    for (int k = 0; k < all.length; k++) {
      FoldForge x = of(due, "fun f(n: int, b: int): int = if n < 1 then 7 else " + all[k] + ";"
          + "fun g(n: int): int = if n < 1 then 7 else do(&h, n - 1); fun h(n: int): int = if n < 1 then 7 else f(n - 1, 0);",
          3);
      for (int n = 0; n <= 62; n++) {
        if (n < 60) {
          gives(due, x, n, 0, 7);
          spends(due, x, 0, n + 1, n + 1);
        } else {
          error(due, x, n, 0, 3);
          spends(due, x, 0, 60, 60);
        }
      }
    }
    // those that have ended do not count: 59 behind one another in the 60th
    FoldForge x = of(due, "fun f(n: int, b: int): int = if n < 1 then one(one(one(1))) else f(n - 1, b);"
        + "fun one(a: int): int = a + 1;", 2);
    gives(due, x, 58, 0, 4);
    spends(due, x, 0, 62, 60);
    error(due, x, 59, 0, 3);
    spends(due, x, 0, 60, 60);
  }

  // sixteen(n) has 1 + n * 17 CALLS, and comes up to n + 17 in one another
  private static final String MANY = "fun sixteen(n: int): int = if n < 1 then 0 else ones(15) + sixteen(n - 1);"
      + "fun ones(n: int): int = if n < 1 then 0 else 1 + ones(n - 1);"
      + "fun all(n: int): int = if n < 1 then 0 else sixteen(16) + all(n - 1);"
      + "fun down(d: int, n: int): int = if d < 1 then n else down(d - 1, n);";

  /** CALLS of all(n): 1 + n * (1 + 16 * 17 + 1). */
  private static int ofAll(int n) {
    return 1 + n * (16 * 17 + 2);
  }

  private static void calls5001(Due due) {
    due.sentence("4 the 5001st CALL of the RUN.");
    // f, all(18), then down(n, 0)
    FoldForge x = of(due, "fun f(n: int, b: int): int = all(18) + down(40, 0) + down(n, 0);" + MANY, 5);
    int ahead = 1 + ofAll(18) + 41;
    int rest = 5000 - ahead;
    due.is("there is room for it", rest > 1 && rest < 59 ? 1 : 0, 1);
    gives(due, x, rest - 2, 0, 18 * 16 * 15);
    due.is("CALLS", x.spent(1), 4999);
    gives(due, x, rest - 1, 0, 18 * 16 * 15);
    due.is("CALLS", x.spent(1), 5000);
    error(due, x, rest, 0, 4);
    due.is("CALLS", x.spent(1), 5000);
    error(due, x, rest + 1, 0, 4);
    due.is("CALLS", x.spent(1), 5000);
    gives(due, x, rest - 1, 0, 18 * 16 * 15);
    FoldForge act = of(due, "fun f(n: int, b: int): int = all(18) + down(40, 0) + down(n, 0) + do(&ones, 0);" + MANY, 5);
    gives(due, act, rest - 2, 0, 18 * 16 * 15);
    due.is("CALLS", act.spent(1), 5000);
    error(due, act, rest - 1, 0, 4);
    due.is("CALLS", act.spent(1), 5000);
  }

  private static void lesserNumber(Due due) {
    due.sentence("NAMED ERRORS, of one CALL the lesser number:");
    // the last one of down(59, 0) would be the 61st in one another; b + 1 CALLS are between it and those ahead
    FoldForge x = of(due, "fun f(n: int, b: int): int = all(17) + down(55, 0) + down(55, 0) + down(55, 0) + down(55, 0)"
        + " + down(b, 0) + down(n, 0);" + MANY, 5);
    int ahead = 1 + ofAll(17) + 4 * 56;
    for (int b = 50; b <= 58; b++) {
      int done = ahead + b + 1 + 59;
      x.argument(0, 59);
      x.argument(1, b);
      due.is(done + " done", x.call(0), 2);
      due.is(done + " done: which", x.outcome(2), done <= 5000 ? 3 : 4);
      due.is(done + " done: CALLS", x.spent(1), Math.min(5000, done));
      x.argument(0, 58);
      due.is(done + " done, none more in one another", x.call(0), done <= 5000 ? 0 : 2);
    }
    due.is("both are met", ahead + 57 + 59, 5000);
  }

  private static void leastByMinusOne(Due due) {
    due.sentence("(the least by -1: / the least, % 0.)");
    FoldForge over = e(due, "a / b");
    FoldForge rest = e(due, "a % b");
    gives(due, over, LEAST, -1, LEAST);
    gives(due, rest, LEAST, -1, 0);
    gives(due, over, LEAST + 1, -1, MOST);
    gives(due, rest, LEAST + 1, -1, 0);
    gives(due, over, MOST, -1, LEAST + 1);
    gives(due, rest, MOST, -1, 0);
    gives(due, over, LEAST, -2, 1 << 30);
    gives(due, e(due, "(-2147483647 - 1) / -1"), 0, 0, LEAST);
    gives(due, e(due, "(-2147483647 - 1) % -1"), 0, 0, 0);
  }

  private static void spentAfterwards(Due due) {
    due.sentence("0 how many cons, 1 how many CALLS, 2 the most CALLS in one another.");
    FoldForge x = of(due, "fun f(a: int, b: int): int = if a < 1 then b else f(a - 1, b);", 1);
    gives(due, x, 5, 1, 1);
    spends(due, x, 0, 6, 6);
    gives(due, x, 0, 1, 1);
    spends(due, x, 0, 1, 1);
    FoldForge cons = of(due, "fun f(a: int, b: int): int = len(cons(1, cons(2, nil))) + len(cons(3, nil));"
        + "fun len(l: list): int = match l with nil -> 0 | h, t -> 1 + len(t);", 2);
    gives(due, cons, 0, 0, 3);
    spends(due, cons, 3, 6, 4);
    gives(due, cons, 0, 0, 3);
    spends(due, cons, 3, 6, 4);
  }
}
