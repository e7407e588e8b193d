/** Promises 7, 9, 14 and 15: RUNS of a PROGRAM's FUNCTION, what they gave, and what was spent on them. */
public final class CallTest {
  private static final int[] SMALL = {0, 1, -1, 2, -2, 3, -3, 7, 10, 46341, 65536, Integer.MAX_VALUE,
      Integer.MIN_VALUE, Integer.MIN_VALUE + 1};

  public static void main(String[] args) {
    Due due = Due.begin();
    whatIsCalled(due);
    arithmetic(due);
    binding(due);
    choices(due);
    lists(due);
    acts(due);
    order(due);
    division(due);
    conses(due);
    nested(due);
    calls(due);
    lesserNumber(due);
    spent(due);
    due.end("CallTest");
  }

  private static FoldForge of(Due due, String text, int definitions) {
    FoldForge x = new FoldForge();
    due.is(text, Due.program(x, text), definitions);
    return x;
  }

  private static void spends(Due due, FoldForge x, String what, int conses, int calls, int deepest) {
    due.is(what + ": cons", x.spent(0), conses);
    due.is(what + ": CALLS", x.spent(1), calls);
    due.is(what + ": in one another", x.spent(2), deepest);
  }

  private static void gives(Due due, FoldForge x, long a, long b, int gives) {
    String what = "call(0) with " + a + ", " + b;
    x.argument(0, a);
    x.argument(1, b);
    due.is(what, x.call(0), 0);
    due.is(what + ": gives", x.outcome(0), gives);
    due.is(what + ": STEPS", x.outcome(1), 0);
    due.is(what + ": ERROR", x.outcome(2), 0);
  }

  private static void error(Due due, FoldForge x, long a, int number) {
    String what = "call(0) with " + a;
    x.argument(0, a);
    due.is(what, x.call(0), 2);
    due.is(what + ": gives", x.outcome(0), 0);
    due.is(what + ": STEPS", x.outcome(1), 0);
    due.is(what + ": ERROR", x.outcome(2), number);
  }

  /** The E of a FUNCTION of two int. */
  private static FoldForge e(Due due, String text) {
    return of(due, "fun main(a: int, b: int): int = " + text + "; fun inc(n: int): int = n + 1;"
        + "fun len(l: list): int = match l with nil -> 0 | h, t -> 1 + len(t);", 3);
  }

  private static void whatIsCalled(Due due) {
    FoldForge x = of(due, "fun a(a: int): int = a; fun b(a: list): int = 1; fun c(a: int): list = nil;"
        + "fun d(a: act): int = 1; fun e(a: int): act = &a; fun f(a: int, b: int, c: int, d: int): int = d;"
        + "fun g(a: int, b: list): int = a; fun h(a: int, b: int, c: int, d: act): int = a;", 8);
    int[] wanted = {0, -1, -1, -1, -1, 0, -1, -1};
    x.argument(3, 9);
    for (int f = 0; f < 8; f++) {
      due.is("call(" + f + ")", x.call(f), wanted[f]);
    }
    due.is("call(8)", x.call(8), -1);
    due.is("call(-1)", x.call(-1), -1);
    due.is("call of the least", x.call(Integer.MIN_VALUE), -1);
    due.is("call of the greatest", x.call(Integer.MAX_VALUE), -1);
    due.is("the latest that answered", x.outcome(0), 9);
    x.argument(0, 0x123456789ABCDEF0L);
    due.is("call", x.call(0), 0);
    due.is("the low 32 bits", x.outcome(0), 0x9ABCDEF0);
    x.argument(0, 0xFFFFFFFFL);
    due.is("call", x.call(0), 0);
    due.is("the low 32 bits, with sign", x.outcome(0), -1);
  }

  private static void arithmetic(Due due) {
    String[] all = {"a + b", "a - b", "a * b", "a / b", "a % b", "a < b", "a == b", "-a"};
    for (int a : SMALL) {
      for (int k = 0; k < all.length; k++) {
        FoldForge x = e(due, all[k]);
        for (int b : SMALL) {
          if (b == 0 && (k == 3 || k == 4)) {
            x.argument(1, 0);
            error(due, x, a, 1);
            continue;
          }
          gives(due, x, a, b, wanted(k, a, b));
        }
      }
    }
    gives(due, e(due, "10 - 4 - 3"), 0, 0, 3);
    gives(due, e(due, "100 / 7 / 2"), 0, 0, 7);
    gives(due, e(due, "100 / 7 * 7"), 0, 0, 98);
    gives(due, e(due, "100 % 7 * 7"), 0, 0, 14);
    gives(due, e(due, "2 + 3 * 4"), 0, 0, 14);
    gives(due, e(due, "(2 + 3) * 4"), 0, 0, 20);
    gives(due, e(due, "2 * 3 + 4 * 5 - 6 / 2"), 0, 0, 23);
    gives(due, e(due, "1 + 1 < 3 - 1"), 0, 0, 0);
    gives(due, e(due, "1 + 1 == 3 - 1"), 0, 0, 1);
    gives(due, e(due, "-a * b"), 3, 4, -12);
    gives(due, e(due, "a * -b"), 3, 4, -12);
    gives(due, e(due, "- - a"), 3, 4, 3);
    gives(due, e(due, "- - - a - - b"), 3, 4, 1);
    gives(due, e(due, "-2147483647 - 1"), 0, 0, Integer.MIN_VALUE);
    gives(due, e(due, "2147483647 + 1"), 0, 0, Integer.MIN_VALUE);
  }

  private static int wanted(int k, int a, int b) {
    switch (k) {
      case 0: return a + b;
      case 1: return a - b;
      case 2: return a * b;
      case 3: return a / b;
      case 4: return a % b;
      case 5: return a < b ? 1 : 0;
      case 6: return a == b ? 1 : 0;
      default: return -a;
    }
  }

  private static void binding(Due due) {
    gives(due, e(due, "let c = a + 1 in let d = c * 2 in d - c + b"), 5, 100, 106);
    gives(due, e(due, "let a = a + 1 in let a = a * 2 in a"), 5, 0, 12);
    gives(due, e(due, "(let a = 7 in a) + a"), 5, 0, 12);
    gives(due, e(due, "a + (let c = b in let d = c in a + d) * 2"), 5, 3, 21);
    gives(due, e(due, "let c = let d = a in d + 1 in c + b"), 5, 3, 9);
    gives(due, e(due, "match cons(1, nil) with nil -> 0 | h, h -> len(h)"), 0, 0, 0);
    gives(due, e(due, "let l = cons(a, cons(b, nil)) in match l with nil -> 0 | a, b -> a + len(b) * 10"), 4, 5, 14);
    gives(due, e(due, "let inc = 3 in inc(inc)"), 0, 0, 4);
    gives(due, e(due, "1 + (match cons(a, nil) with nil -> 0 | h, t -> let c = h in c + h) + b"), 4, 5, 14);
    gives(due, e(due, "inc(let c = a in c) + b"), 4, 5, 10);
    gives(due, e(due, "(let c = b in c) * 100 + (let d = a in d)"), 4, 5, 504);
    gives(due, e(due, "(let c = b in c) + (match cons(7, nil) with nil -> 0 | h, t -> h * 10) + (let d = a in d * 100)"),
        4, 5, 475);
  }

  private static void choices(Due due) {
    FoldForge x = e(due, "if a then b else 7");
    gives(due, x, 1, 3, 3);
    gives(due, x, -1, 3, 3);
    gives(due, x, 0, 3, 7);
    gives(due, x, 1L << 32, 3, 7);
    gives(due, x, Integer.MIN_VALUE, 3, 3);
    FoldForge alone = e(due, "if a < 1 then 1 / a else a / 2");
    gives(due, alone, 4, 0, 2);
    gives(due, alone, -1, 0, -1);
    error(due, alone, 0, 1);
    FoldForge match = e(due, "match (if a then cons(b, nil) else nil) with nil -> 1 / b | h, t -> h + len(t)");
    gives(due, match, 1, 0, 0);
    gives(due, match, 1, 9, 9);
    gives(due, match, 0, 1, 1);
    gives(due, e(due, "if a then if b then 1 else 2 else if b then 3 else 4"), 0, 1, 3);
    gives(due, e(due, "if a then if b then 1 else 2 else if b then 3 else 4"), 1, 0, 2);
  }

  private static void lists(Due due) {
    String sum = "fun sum(l: list): int = match l with nil -> 0 | h, t -> h + sum(t);"
        + "fun rev(l: list, r: list): list = match l with nil -> r | h, t -> rev(t, cons(h, r));"
        + "fun upto(n: int): list = if n < 1 then nil else cons(n, upto(n - 1));"
        + "fun digits(l: list): int = match l with nil -> 0 | h, t -> h + 10 * digits(t);";
    FoldForge x = of(due, "fun main(a: int): int = sum(upto(a)) * 1000 + digits(rev(upto(a), nil));" + sum, 5);
    gives(due, x, 3, 0, 6321);
    spends(due, x, "lists", 9, 1 + 4 + 4 + 4 + 4 + 4, 5);
    gives(due, x, 0, 0, 0);
    spends(due, x, "empty lists", 0, 6, 2);
    FoldForge shared = of(due, "fun main(a: int): int = let l = upto(a) in sum(cons(5, l)) + sum(cons(7, l));" + sum, 5);
    gives(due, shared, 4, 0, 32);
    spends(due, shared, "a shared list", 6, 1 + 5 + 6 + 6, 7);
  }

  private static void acts(Due due) {
    FoldForge x = of(due, "fun main(a: int): int = do(&inc, a) + twice(&inc, a) * 10 + do(pick(a), 5) * 100;"
        + "fun inc(a: int): int = a + 1; fun dec(a: int): int = a - 1; fun twice(f: act, a: int): int = do(f, do(f, a));"
        + "fun pick(a: int): act = if a then &inc else &dec;", 5);
    gives(due, x, 1, 0, 2 + 30 + 600);
    spends(due, x, "acts", 0, 1 + 1 + 1 + 2 + 1 + 1, 3);
    gives(due, x, 0, 0, 1 + 20 + 400);
    FoldForge self = of(due, "fun main(a: int): int = if a < 1 then 0 else 1 + do(&main, a - 1);", 1);
    gives(due, self, 59, 0, 59);
    spends(due, self, "60 by do", 0, 60, 60);
    error(due, self, 60, 3);
    spends(due, self, "61 by do", 0, 60, 60);
  }

  /** Left before right, ARGUMENTS before their CALL: told by which ERROR comes, or what was counted. */
  private static void order(Due due) {
    String rest = "fun one(a: int): int = 1 / (a - a); fun two(a: int): int = two(a);"
        + "fun both(a: int, b: int): int = 0;";
    for (String sign : "+ - * / % < ==".split(" ")) {
      error(due, of(due, "fun main(a: int): int = one(a) " + sign + " two(a);" + rest, 4), 1, 1);
      error(due, of(due, "fun main(a: int): int = two(a) " + sign + " one(a);" + rest, 4), 1, 3);
    }
    error(due, of(due, "fun main(a: int): int = 1 / 0 + two(a);" + rest, 4), 1, 1);
    error(due, of(due, "fun main(a: int): int = two(a) + 1 / 0;" + rest, 4), 1, 3);
    error(due, of(due, "fun main(a: int): int = 1 / two(a) / 0;" + rest, 4), 1, 3);
    error(due, of(due, "fun main(a: int): int = both(one(a), two(a));" + rest, 4), 1, 1);
    error(due, of(due, "fun main(a: int): int = both(two(a), one(a));" + rest, 4), 1, 3);
    error(due, of(due, "fun main(a: int): int = do(if one(a) then &one else &two, two(a));" + rest, 4), 1, 1);
    error(due, of(due, "fun main(a: int): int = do(if two(a) then &one else &two, one(a));" + rest, 4), 1, 3);
    error(due, of(due, "fun main(a: int): int = match cons(two(a), cons(one(a), nil)) with nil -> 1 | h, t -> h;" + rest,
        4), 1, 3);
    error(due, of(due, "fun main(a: int): int = let b = one(a) in two(a);" + rest, 4), 1, 1);
    FoldForge x = of(due, "fun main(a: int): int = both(a, 1 / 0);" + rest, 4);
    error(due, x, 1, 1);
    spends(due, x, "its ARGUMENTS come before a CALL", 0, 1, 1);
    FoldForge cons = of(due, "fun main(a: int): int = match cons(1, cons(1 / 0, nil)) with nil -> 1 | h, t -> h;", 1);
    error(due, cons, 1, 1);
    spends(due, cons, "both parts come before a cons", 0, 1, 1);
    FoldForge act = of(due, "fun main(a: int): int = do(&main, 1 / 0);", 1);
    error(due, act, 1, 1);
    spends(due, act, "both parts come before do", 0, 1, 1);
  }

  private static void division(Due due) {
    for (String sign : "/ %".split(" ")) {
      FoldForge x = e(due, "let l = cons(1, nil) in inc(a) " + sign + " b");
      x.argument(1, 0);
      error(due, x, 5, 1);
      spends(due, x, "a division by 0", 1, 2, 2);
      gives(due, x, Integer.MAX_VALUE, -1, sign.equals("/") ? Integer.MIN_VALUE : 0);
    }
  }

  /** 500 cons in a RUN; the 501st is an ERROR. */
  private static void conses(Due due) {
    FoldForge x = of(due, "fun main(n: int): int = loop(n / 25) + rest(n % 25);"
        + "fun loop(n: int): int = if n < 1 then 0 else rest(25) + loop(n - 1);"
        + "fun rest(n: int): int = if n < 1 then 0 else match cons(n, nil) with nil -> 0 | h, t -> 1 + rest(n - 1);", 3);
    gives(due, x, 499, 0, 499);
    due.is("cons", x.spent(0), 499);
    gives(due, x, 500, 0, 500);
    due.is("cons", x.spent(0), 500);
    error(due, x, 501, 2);
    due.is("cons", x.spent(0), 500);
    gives(due, x, 500, 0, 500);
    FoldForge whole = of(due, "fun main(n: int): int = len(make(n)) + len(make(n));"
        + "fun make(n: int): list = if n < 1 then nil else cons(n, cons(n, cons(n, cons(n, cons(n, make(n - 1))))));"
        + "fun len(l: list): int = match l with nil -> 0 | a, l -> match l with nil -> 1 | a, l -> match l with nil -> 2"
        + "| a, l -> match l with nil -> 3 | a, l -> match l with nil -> 4 | a, l -> 5 + len(l);", 3);
    gives(due, whole, 50, 0, 500);
    spends(due, whole, "lists of 500 in all", 500, 1 + 4 * 51, 52);
    error(due, whole, 51, 2);
  }

  /** 60 in one another; the 61st CALL is an ERROR. */
  private static void nested(Due due) {
    FoldForge x = of(due, "fun main(n: int): int = if n < 1 then 7 else main(n - 1) * 1;", 1);
    gives(due, x, 0, 0, 7);
    spends(due, x, "one", 0, 1, 1);
    gives(due, x, 59, 0, 7);
    spends(due, x, "60", 0, 60, 60);
    error(due, x, 60, 3);
    spends(due, x, "61", 0, 60, 60);
    gives(due, x, 2, 0, 7);
    spends(due, x, "3", 0, 3, 3);
    // a CALL that comes last is one in another, too
    FoldForge tail = of(due, "fun main(n: int): int = if n < 1 then 7 else main(n - 1);", 1);
    gives(due, tail, 59, 0, 7);
    error(due, tail, 60, 3);
    // within the ARGUMENTS of a CALL that CALL is not open yet
    FoldForge inner = of(due, "fun main(n: int): int = f(f(f(f(n)))); fun f(n: int): int = n + 1;", 2);
    gives(due, inner, 3, 0, 7);
    spends(due, inner, "one behind another", 0, 5, 2);
    // the deepest of FUNCTIONS with all that may stand on the way
    FoldForge wide = of(due, "fun main(n: int): int = if n < 1 then 0 else 1 + 2 * f(1, 2, 3, 1 + 2 * f(1, 2, 3, 1 + 2 *"
        + "f(1, 2, 3, 1 + 2 * main(n - 1)))); fun f(a: int, b: int, c: int, d: int): int = a - a + d % 1000003;", 2);
    int wanted = 0;
    for (int k = 0; k < 58; k++) {
      wanted = 1 + 2 * wanted;
      for (int j = 0; j < 3; j++) {
        wanted = 1 + 2 * (wanted % 1000003);
      }
    }
    gives(due, wide, 58, 0, wanted);
    spends(due, wide, "wide", 0, 59 + 3 * 58, 59);
    StringBuilder widest = new StringBuilder("if n < 1 then 1 else main(n - 1, n, n, n)");
    for (int k = 0; k < 27; k++) {
      widest.insert(0, "0 < 1 + 1 * f(n, n, n, ").append(')');
    }
    FoldForge most = of(due, "fun main(n: int, a: int, b: int, c: int): int = " + widest + ";"
        + "fun f(a: int, b: int, c: int, d: int): int = d - 1;", 2);
    gives(due, most, 58, 0, 1);
    spends(due, most, "widest", 0, 59 * 28, 60);
  }

  // many(n) takes 290 n + 1 CALLS, and comes up to 33 + n in one another
  private static final String MANY = "fun many(n: int): int = if n < 1 then 0 else some(16) + many(n - 1);"
      + "fun some(n: int): int = if n < 1 then 0 else ones(16) + some(n - 1);"
      + "fun ones(n: int): int = if n < 1 then 0 else 1 + ones(n - 1);"
      + "fun down(d: int, n: int): int = if d < 1 then n else down(d - 1, n);";

  /** 5000 CALLS in a RUN; the 5001st is an ERROR. */
  private static void calls(Due due) {
    FoldForge x = of(due, "fun main(n: int): int = many(17) + down(20, 0) + ones(n);" + MANY, 5);
    int ahead = 1 + 290 * 17 + 1 + 21;
    int most = 5000 - ahead - 1;
    gives(due, x, most, 0, 17 * 256 + most);
    spends(due, x, "all that there may be", 0, 5000, 51);
    error(due, x, most + 1, 4);
    spends(due, x, "one more", 0, 5000, 51);
    gives(due, x, most - 1, 0, 17 * 256 + most - 1);
    spends(due, x, "one less", 0, 4999, 51);
    FoldForge act = of(due, "fun main(n: int): int = many(17) + down(20, 0) + ones(n) + do(&ones, 0);" + MANY, 5);
    gives(due, act, most - 1, 0, 17 * 256 + most - 1);
    error(due, act, most, 4);
    spends(due, act, "do is a CALL", 0, 5000, 51);
  }

  /** The 61st in one another that is the 5001st, too, is the first of these. */
  private static void lesserNumber(Due due) {
    // 4932 CALLS, and d + 1 more, are ahead of the last one, that comes up to n + 2 in one another
    String text = "fun main(n: int): int = many(17) + down(d, 1) + down(n, 1);" + MANY;
    FoldForge few = of(due, text.replace("(17)", "(1)").replace("(d,", "(2,"), 5);
    gives(due, few, 58, 0, 256 + 2);
    spends(due, few, "60 in one another", 0, 1 + 291 + 3 + 59, 60);
    error(due, few, 59, 3);
    FoldForge before = of(due, text.replace("(d,", "(7,"), 5);
    error(due, before, 59, 3);
    spends(due, before, "the 61st, one less than the 5001st", 0, 4999, 60);
    FoldForge both = of(due, text.replace("(d,", "(8,"), 5);
    error(due, both, 59, 3);
    spends(due, both, "the 61st and the 5001st", 0, 5000, 60);
    FoldForge behind = of(due, text.replace("(d,", "(9,"), 5);
    error(due, behind, 59, 4);
    spends(due, behind, "the 5001st alone", 0, 5000, 59);
  }

  /** What spent() tells once other calls have been made. */
  private static void spent(Due due) {
    FoldForge x = new FoldForge();
    spends(due, x, "before", 0, 0, 0);
    due.is("program", Due.program(x, "fun f(a: int): int = match cons(a, nil) with nil -> 0 | h, t -> g(h);"
        + "fun g(a: int): int = 10 / a; fun h(l: list): int = 0;"), 3);
    spends(due, x, "before a call", 0, 0, 0);
    x.argument(0, 5);
    due.is("call", x.call(0), 0);
    spends(due, x, "call", 1, 2, 2);
    due.is("no such", x.call(3), -1);
    due.is("takes a list", x.call(2), -1);
    due.is("program", Due.program(x, "fun f(a: int): int = a;"), 1);
    byte[] nop = new Built().type(0).function(0, 0).export("f", 0, 0).bytes();
    due.is("module", Due.module(x, nop), 1);
    due.is("run", x.run(0, 5), 2);
    spends(due, x, "the latest call()", 1, 2, 2);
    for (int what : new int[] {-1, 3, Integer.MIN_VALUE, Integer.MAX_VALUE}) {
      due.is("spent(" + what + ")", x.spent(what), 0);
    }
    due.is("call", x.call(0), 0);
    spends(due, x, "another PROGRAM", 0, 1, 1);
    due.is("outcome of the call", x.outcome(0), 5);
    due.is("no ERROR", x.outcome(2), 0);
    due.is("run", x.run(0, 5), 2);
    due.is("the run's TRAP", x.outcome(2), 1);
    due.is("the run's STEPS", x.outcome(1), 1);
  }
}
