/** Promise 13: which PROGRAMS there are, and where an ill one has its fault. */
public final class ProgramTest {
  public static void main(String[] args) {
    Due due = Due.begin();
    lengths(due);
    bytes(due);
    words(due);
    definitions(due);
    grammar(due);
    open(due);
    atoms(due);
    names(due);
    calls(due);
    types(due);
    parts(due);
    acts(due);
    unknown(due);
    firstFault(due);
    stays(due);
    due.end("ProgramTest");
  }

  private static void is(Due due, String text, int answer) {
    due.is(text, Due.program(new FoldForge(), text), answer);
  }

  /** A sign ^ stands ahead of the byte that is the fault. */
  private static void fault(Due due, String text) {
    int place = text.indexOf('^');
    is(due, text.substring(0, place) + text.substring(place + 1), -1 - place);
  }

  /** An E in a FUNCTION of an int a, a list l, an act x, behind f of an int and before g of two. */
  private static String within(String gives, String e) {
    return "fun f(a: int): int = a; fun main(a: int, l: list, x: act): " + gives + " = " + e
        + "; fun g(a: int, b: list): list = b; fun h(a: act): int = do(a, 1);";
  }

  private static void fits(Due due, String gives, String e) {
    is(due, within(gives, e), 4);
  }

  private static void unfit(Due due, String gives, String e) {
    fault(due, within(gives, e));
  }

  private static String repeat(String part, int times) {
    StringBuilder all = new StringBuilder();
    for (int k = 0; k < times; k++) {
      all.append(part);
    }
    return all.toString();
  }

  private static void lengths(Due due) {
    FoldForge x = new FoldForge();
    due.is("feed", x.feed(0x66756e20, 0x6628613a, 0x20696e74, 0x293a696e, 0x743d613b), 20);
    due.is("program(0)", x.program(0), 0);
    due.is("program(-1)", x.program(-1), 0);
    due.is("program(21)", x.program(21), 0);
    due.is("program of the greatest", x.program(Integer.MAX_VALUE), 0);
    due.is("program of the least", x.program(Integer.MIN_VALUE), 0);
    due.is("program(20)", x.program(20), 1);
    due.is("the tape is empty", x.program(1), 0);
    due.is("feed", x.feed(0x66756e20, 0x6628613a, 0x20696e74, 0x293a696e, 0x743d613b), 20);
    due.is("program(19): the end comes", x.program(19), -20);
    due.is("the tape is empty", x.program(1), 0);
    StringBuilder whole = new StringBuilder("fun f(a: int): int = a");
    while (whole.length() < 3999) {
      whole.append(' ');
    }
    is(due, whole + ";", 1);
    is(due, whole + " ", -4001);
    is(due, "        ", -9);
    is(due, "\n", -2);
  }

  private static void bytes(Due due) {
    for (int b = 0; b < 256; b++) {
      String text = "fun f(a: int): int = a" + (char) b + ";";
      boolean blank = b == ' ' || b == 10;
      boolean longer = b >= '0' && b <= '9' || b >= 'a' && b <= 'z';
      int at = blank ? 0 : longer ? 21 : "+-*/%<(".indexOf(b) >= 0 ? 23 : b == ';' ? 23 : 22;
      is(due, text, blank ? 1 : -1 - at);
    }
    for (int b = 0; b < 256; b++) {
      // bytes that are no part of any TOKEN, wherever they stand
      if (b == ' ' || b == 10 || b >= '0' && b <= '9' || b >= 'a' && b <= 'z' || "(),:;=+-*/%<&|".indexOf(b) >= 0) {
        continue;
      }
      String sign = "^" + (char) b;
      if (b == '^') {
        sign = "^^";
      }
      fault(due, sign + "fun f(a: int): int = a;");
      fault(due, "fun " + sign + "(a: int): int = a;");
      fault(due, "fun f(a: " + sign + "): int = a;");
      fault(due, "fun f(a: int): int = " + sign + ";");
      fault(due, "fun f(a: int): int = 1" + sign + "1;");
      fault(due, "fun f(a: int): int = a;" + sign);
      fault(due, "fun f(a: int): int = a; " + sign + " fun g(a: int): int = a;");
    }
    fault(due, "fun f(a: int): int = a^\t;");
    fault(due, "fun f(a: int): int = a^\r\n;");
    is(due, "fun\nf\n(\na\n:\nint\n)\n:\nint\n=\na\n;\n", 1);
    is(due, "fun f(a:int):int=a;fun g(a:int):int=if a==1then 1else a<-2;", 2);
    fault(due, "fun f(a: int): int = a ^> 1;");
    fault(due, "fun f(a: int): int = a ^! 1;");
    fault(due, "fun f(a: int): int = a < ^= 1;");
    fault(due, "fun f(a: int): int = a ^= = 1;");
    fault(due, "fun f(a: int): int = 1 ^-> 2;");
    fault(due, "fun f(a: int): int = 1 - ^> 2;");
    fault(due, "fun f(a: int): int = 1 -^-> 2;");
    is(due, "fun f(a: int): int = 1--2;", 1);
    // a fault ahead counts, not a sign further on that is none
    fault(due, "fun f(a ^int): int = \u0001;");
  }

  private static void words(Due due) {
    is(due, "fun abcdefghij(a123456789: int): int = a123456789;", 1);
    fault(due, "fun ^abcdefghijk(a: int): int = a;");
    fault(due, "fun f(^a1234567890: int): int = 1;");
    fault(due, "fun f(a: int): int = ^a1234567890;");
    fault(due, "fun f(a: int): ^intintintin = 1;");
    fault(due, "fun f(a: int): ^integer = 1;");
    fault(due, "fun ^F(a: int): int = 1;");
    fault(due, "fun ^1f(a: int): int = 1;");
    fault(due, "fun f(a: int): int = 1^a;");
    fault(due, "fun f(a: int): int = a^_b;");
    is(due, "fun f(a: int): int = 2147483647;", 1);
    is(due, "fun f(a: int): int = 00000000000002147483647;", 1);
    fault(due, "fun f(a: int): int = ^2147483648;");
    fault(due, "fun f(a: int): int = -^2147483648;");
    fault(due, "fun f(a: int): int = ^99999999999999999999999999;");
    fault(due, "fun f(a: int): int = ^18446744073709551617;");
    for (String word : "fun let in if then else match with nil cons do int list act".split(" ")) {
      fault(due, "fun ^" + word + "(a: int): int = 1;");
      fault(due, "fun f(^" + word + ": int): int = 1;");
      fault(due, "fun f(a: int): int = let ^" + word + " = 1 in 1;");
      fault(due, "fun f(a: int): int = match nil with nil -> 1 | ^" + word + ", b -> 1;");
      fault(due, "fun f(a: int): int = match nil with nil -> 1 | b, ^" + word + " -> 1;");
      fault(due, "fun f(a: int): int = do(& ^" + word + ", 1);");
      is(due, "fun " + word + "x(" + word + "0: int): int = " + word + "0;", 1);
    }
  }

  private static void definitions(Due due) {
    StringBuilder twenty = new StringBuilder();
    for (int k = 0; k < 20; k++) {
      twenty.append("fun f").append(k).append("(a: int): int = a;");
      is(due, twenty.toString(), k + 1);
    }
    fault(due, twenty + " ^fun g(a: int): int = a;");
    fault(due, twenty + " ^x");
    fault(due, "fun f(a: int): int = a; ^1");
    fault(due, "fun f(a: int): int = a;^;");
    is(due, "fun f(a: int, b: list, c: act, d: int): int = a;", 1);
    fault(due, "fun f(a: int, b: int, c: int, d: int^, e: int): int = a;");
    fault(due, "fun f(^): int = 1;");
    fault(due, "fun f(a: int,^): int = 1;");
    fault(due, "fun f^: int = 1;");
    fault(due, "^f(a: int): int = 1;");
    fault(due, "fun f(a^): int = 1;");
    fault(due, "fun f(a: ^1): int = 1;");
    fault(due, "fun f(a: ^): int = 1;");
    fault(due, "fun f(a: ^, b: int): int = 1;");
    fault(due, "fun f(a: ^fun): int = 1;");
    fault(due, "fun f(a: ^do): int = 1;");
    fault(due, "fun f(a: int): ^= 1;");
    fault(due, "fun f(a: int): ^do = 1;");
    fault(due, "fun f(a: int) ^= 1;");
    fault(due, "fun f(a: int): int ^a;");
    fault(due, "fun f(a: int): int ^== a;");
    fault(due, "fun f(a: int): int = a^");
    fault(due, "fun f(a: int): int = ^;");
    fault(due, "fun f(a: int): int =^");
    fault(due, "fun^");
    is(due, "fun f(a: list): list = a; fun g(a: act): act = a;", 2);
  }

  private static void grammar(Due due) {
    fits(due, "int", "let y = a in y + a");
    unfit(due, "int", "let y ^== a in y");
    unfit(due, "int", "let ^1 = a in y");
    unfit(due, "int", "let y = a ^then y");
    unfit(due, "int", "let y = a in ^in");
    fits(due, "int", "if a then 1 else if a then 2 else 3");
    unfit(due, "int", "if a then 1 ^");
    unfit(due, "int", "if a ^1 else 2");
    unfit(due, "int", "if a then ^else 2");
    fits(due, "int", "match l with nil -> 0 | h, t -> h");
    unfit(due, "int", "match l ^nil -> 0 | h, t -> h");
    unfit(due, "int", "match l with ^a -> 0 | h, t -> h");
    unfit(due, "int", "match l with nil ^- 0 | h, t -> h");
    unfit(due, "int", "match l with nil -> 0 ^h, t -> h");
    unfit(due, "int", "match l with nil -> 0 | h ^-> h");
    unfit(due, "int", "match l with nil -> 0 | h, t ^= h");
    unfit(due, "int", "match l with nil -> 0 | h, t -> ^");
    fits(due, "int", "match l with nil -> match l with nil -> 1 | h, t -> 2 | h, t -> 3");
    unfit(due, "int", "match l with nil -> match l with nil -> 1 | h, t -> 2^");
    fits(due, "int", "1 + 2 * 3 - 4 / 5 % 6 < - - 7 * a");
    unfit(due, "int", "1 < 2 ^< 3");
    unfit(due, "int", "1 == 2 ^== 3");
    unfit(due, "int", "1 < 2 ^== 3");
    fits(due, "int", "(1 < 2) < (3 == 4)");
    unfit(due, "int", "1 + ^if a then 1 else 2");
    unfit(due, "int", "1 < ^let y = 1 in y");
    unfit(due, "int", "- ^match l with nil -> 0 | h, t -> h");
    unfit(due, "int", "1 + ^* 2");
    unfit(due, "int", "1 ^2");
    unfit(due, "int", "(1^");
    unfit(due, "int", "(^)");
    unfit(due, "int", "(1 ^, 2)");
    unfit(due, "int", "f(^)");
    unfit(due, "int", "f(1^;");
    unfit(due, "int", "f(1, ^)");
    unfit(due, "list", "cons ^1, nil)");
    unfit(due, "list", "cons(1 ^)");
    unfit(due, "list", "cons(1, nil ^, nil)");
    unfit(due, "int", "do(x ^)");
    unfit(due, "int", "do ^x");
    unfit(due, "int", "do(& ^1, 1)");
    unfit(due, "int", "do(& ^(f), 1)");
    unfit(due, "int", "do(& f ^(1), 1)");
    unfit(due, "list", "nil ^(1)");
    unfit(due, "int", "a ^| 1");
    fits(due, "int", "f (1)");
  }

  /** 30 E within one another, the body's own among them. */
  private static void open(Due due) {
    String def = "fun f(a: int): int = ";
    is(due, def + repeat("(", 29) + "a" + repeat(")", 29) + ";", 1);
    fault(due, def + repeat("(", 30) + "^a" + repeat(")", 30) + ";");
    fault(due, def + repeat("(", 30) + "^(a" + repeat(")", 31) + ";");
    is(due, def + repeat("f(", 29) + "a" + repeat(")", 29) + ";", 1);
    fault(due, def + repeat("f(", 30) + "^a" + repeat(")", 30) + ";");
    is(due, def + repeat("if a then 1 else ", 29) + "1;", 1);
    fault(due, def + repeat("if a then 1 else ", 29) + "if ^a then 1 else 1;");
    is(due, def + repeat("if a then ", 29) + "1" + repeat(" else 1", 29) + ";", 1);
    fault(due, def + repeat("if a then ", 29) + "if ^1 then 1 else 1" + repeat(" else 1", 29) + ";");
    is(due, def + repeat("if 1 then (", 14) + "(1)" + repeat(") else 1", 14) + ";", 1);
    fault(due, def + repeat("if 1 then (", 14) + "((^1))" + repeat(") else 1", 14) + ";");
    is(due, def + repeat("match nil with nil -> (", 14) + "(1)" + repeat(") | b, c -> 1", 14) + ";", 1);
    fault(due, def + repeat("match nil with nil -> (", 14) + "((^1))" + repeat(") | b, c -> 1", 14) + ";");
    is(due, def + repeat("if ", 29) + "a" + repeat(" then 1 else 1", 29) + ";", 1);
    fault(due, def + repeat("if ", 30) + "^a" + repeat(" then 1 else 1", 30) + ";");
    is(due, def + repeat("let b = ", 29) + "1" + repeat(" in 1", 29) + ";", 1);
    fault(due, def + repeat("let b = ", 30) + "^1" + repeat(" in 1", 30) + ";");
    is(due, def + repeat("let b = 1 in ", 29) + "b;", 1);
    fault(due, def + repeat("let b = 1 in ", 29) + "let b = ^1 in b;");
    is(due, def + repeat("match nil with nil -> 1 | b, c -> ", 29) + "b;", 1);
    fault(due, def + repeat("match nil with nil -> 1 | b, c -> ", 29) + "match ^nil with nil -> 1 | b, c -> b;");
    is(due, def + repeat("do(&f, ", 29) + "1" + repeat(")", 29) + ";", 1);
    fault(due, def + repeat("do(&f, ", 29) + "do(^&f, 1" + repeat(")", 30) + ";");
    is(due, "fun f(a: int): list = " + repeat("cons(1, ", 29) + "nil" + repeat(")", 29) + ";", 1);
    fault(due, "fun f(a: int): list = " + repeat("cons(1, ", 29) + "cons(^1, nil" + repeat(")", 30) + ";");
    fault(due, def + repeat("(", 30) + "^)");
    // they are open within one another alone
    is(due, def + repeat("(", 29) + "a" + repeat(")", 29) + repeat("+ (a)", 40) + ";", 1);
    is(due, def + "a" + repeat(" + a * a", 60) + ";", 1);
  }

  /** 400 ATOMS in all, of all DEFINITIONS. */
  private static void atoms(Due due) {
    String def = "fun f(a: int): int = ";
    is(due, def + "1" + repeat("+1", 399) + ";", 1);
    fault(due, def + "1" + repeat("+1", 399) + "+^1;");
    is(due, def + repeat("-", 399) + "1;", 1);
    fault(due, def + repeat("-", 400) + "^1;");
    fault(due, def + repeat("-", 400) + "^-1;");
    is(due, def + "(1)" + repeat("*(1)", 199) + ";", 1);
    fault(due, def + "(1)" + repeat("*(1)", 199) + "*^1;");
    is(due, def + "do(&f, 1)" + repeat("/ do(&f, 1)", 132) + "+ 1;", 1);
    fault(due, def + "do(&f, 1)" + repeat("/ do(&f, 1)", 132) + "+ 1 + ^1;");
    is(due, def + "f(1)" + repeat("% f(1)", 199) + ";", 1);
    fault(due, def + "f(1)" + repeat("% f(1)", 199) + "% ^f(1);");
    String half = def + "1" + repeat("+1", 199) + ";";
    is(due, half + half.replace("fun f", "fun g"), 2);
    fault(due, half + half.replace("fun f", "fun g") + "fun h(a: int): int = ^1;");
    fault(due, def + "1" + repeat("+1", 399) + "+^;");
    // as many of all kinds as there may be
    is(due, "fun f(a: int): int = " + repeat("(let b = a in b) + ", 133) + "1;", 1);
    is(due, "fun f(a: list): int = " + repeat("(match a with nil -> 1 | b, c -> b) + ", 99) + "1;", 1);
  }

  private static void names(Due due) {
    unfit(due, "int", "^b");
    fault(due, "fun f(p: int): int = p; fun g(q: int): int = ^p;");
    fault(due, "fun f(p: int): int = let r = p in r; fun g(q: int): int = ^r;");
    is(due, "fun f(p: list): list = p; fun g(q: int, p: int): int = p + q;", 2);
    unfit(due, "int", "^f");
    unfit(due, "int", "^main + 1");
    unfit(due, "int", "let y = ^y in y");
    unfit(due, "int", "(let y = 1 in y) + ^y");
    unfit(due, "int", "if (let y = 1 in y) then 1 else ^y");
    unfit(due, "int", "match l with nil -> ^t | h, t -> h");
    unfit(due, "int", "(match l with nil -> 1 | h, t -> h) + ^h");
    unfit(due, "int", "match ^t with nil -> 1 | h, t -> h");
    unfit(due, "int", "^a(1)");
    unfit(due, "int", "^nope(1)");
    unfit(due, "int", "let y = 1 in ^y(1)");
    unfit(due, "int", "do(& ^nope, 1)");
    unfit(due, "int", "do(&^a, 1)");
    fits(due, "int", "let a = nil in 1");
    fits(due, "list", "let a = nil in a");
    unfit(due, "int", "let a = nil in ^a + 1");
    fits(due, "int", "let a = a + 1 in a");
    fits(due, "list", "let a = a + 1 in let a = cons(a, nil) in a");
    fits(due, "int", "(let a = nil in 1) + a");
    fits(due, "list", "match l with nil -> l | l, a -> a");
    unfit(due, "list", "match l with nil -> l | l, a -> ^l");
    fits(due, "list", "match l with nil -> l | h, h -> h");
    fits(due, "int", "let f = 3 in f(f) + f");
    fits(due, "int", "let main = 3 in do(&f, main)");
    fault(due, "fun f(a: int): int = a; fun ^f(b: int): int = b;");
    fault(due, "fun f(a: int): int = a; fun g(a: int): int = 1; fun ^f(b: list): int = 1;");
    fault(due, "fun f(a: int, ^a: int): int = a;");
    fault(due, "fun f(a: int, b: int, ^a: list): int = 1;");
    fault(due, "fun f(a: int, b: int, c: int, ^c: list): int = 1;");
    is(due, "fun a(a: int): int = a(a); fun b(a: int): int = a(a);", 2);
    is(due, "fun f(a: int): int = g(a); fun g(a: int): int = f(a);", 2);
    is(due, "fun a1(a1: int, a2: int, b: int): int = a1;", 1);
  }

  private static void calls(Due due) {
    unfit(due, "int", "^f(1, 2)");
    unfit(due, "list", "^g(1)");
    unfit(due, "list", "^g(1, nil, nil)");
    unfit(due, "int", "^f(1, nil, x, 2, 3, 4)");
    unfit(due, "int", "f(^nil)");
    unfit(due, "list", "g(^nil, 1)");
    unfit(due, "list", "g(1, ^1)");
    unfit(due, "int", "h(^a)");
    fits(due, "int", "h(x) + h(&f) + f(f(1))");
    fits(due, "list", "g(1, g(2, nil))");
    unfit(due, "int", "f(^g(1, nil))");
    unfit(due, "list", "^f(1)");
    unfit(due, "int", "^g(1, nil)");
    unfit(due, "list", "g(1, ^(1 + nil))");
  }

  private static void types(Due due) {
    for (String sign : "+ - * / % < ==".split(" ")) {
      fits(due, "int", "a " + sign + " 1");
      unfit(due, "int", "^l " + sign + " 1");
      unfit(due, "int", "1 " + sign + " ^l");
      unfit(due, "int", "^nil " + sign + " nil");
      unfit(due, "int", "^x " + sign + " x");
      unfit(due, "int", "a " + sign + " ^(nil)");
      unfit(due, "int", "a " + sign + " ^cons(1, nil) + 1");
      unfit(due, "int", "^&f " + sign + " 1");
      unfit(due, "list", "^1 " + sign + " 1");
      unfit(due, "act", "^a " + sign + " 1");
    }
    unfit(due, "int", "1 + 2 * ^nil");
    unfit(due, "int", "1 * ^nil + 2");
    unfit(due, "int", "1 + ^nil * 2");
    unfit(due, "int", "-^nil");
    unfit(due, "int", "- - ^l");
    unfit(due, "int", "-^(nil)");
    unfit(due, "list", "^-1");
    fits(due, "int", "-(-a)");
    unfit(due, "list", "cons(^nil, nil)");
    unfit(due, "list", "cons(1, ^1)");
    unfit(due, "list", "cons(^x, 1)");
    unfit(due, "int", "^cons(1, nil)");
    unfit(due, "int", "^nil");
    unfit(due, "int", "^l");
    unfit(due, "int", "^x");
    unfit(due, "act", "^a");
    unfit(due, "act", "^l");
    unfit(due, "list", "^x");
    unfit(due, "list", "^(1)");
    unfit(due, "list", "^let y = 1 in y");
    unfit(due, "int", "^let y = 1 in nil");
    fits(due, "list", "let y = 1 in cons(y, nil)");
    fits(due, "act", "let y = x in y");
    unfit(due, "int", "let y = nil in 1 + ^y");
  }

  private static void parts(Due due) {
    unfit(due, "int", "if ^nil then 1 else 2");
    unfit(due, "int", "if ^x then 1 else 2");
    unfit(due, "int", "if a then 1 else ^nil");
    unfit(due, "int", "^if a then nil else 1");
    unfit(due, "list", "^if a then 1 else nil");
    unfit(due, "int", "^if a then nil else nil");
    unfit(due, "int", "1 + (if a then 2 else ^x)");
    unfit(due, "int", "1 + ^(if a then nil else 2)");
    fits(due, "act", "if a then x else &f");
    unfit(due, "int", "match ^1 with nil -> 1 | h, t -> h");
    unfit(due, "int", "match ^x with nil -> 1 | h, t -> h");
    unfit(due, "int", "match l with nil -> 1 | h, t -> ^t");
    unfit(due, "int", "^match l with nil -> nil | h, t -> t");
    unfit(due, "list", "match l with nil -> nil | h, t -> ^h");
    unfit(due, "list", "^match l with nil -> 1 | h, t -> t");
    unfit(due, "int", "match l with nil -> 1 | h, t -> ^t + h");
    unfit(due, "int", "match ^h with nil -> 1 | h, t -> h");
    fits(due, "list", "match l with nil -> nil | h, t -> cons(h, t)");
    // what is wrong has the TYPE that must be there
    unfit(due, "list", "cons(1, ^if a then 1 else nil)");
    unfit(due, "int", "if ^(if a then nil else nil) then 1 else 2");
  }

  private static void acts(Due due) {
    fits(due, "act", "&f");
    fits(due, "act", "& f");
    unfit(due, "act", "^&g");
    unfit(due, "act", "^&main");
    unfit(due, "act", "^& h");
    unfit(due, "act", "& ^nope");
    unfit(due, "int", "^&f");
    unfit(due, "int", "^&g");
    unfit(due, "int", "^&nope");
    is(due, "fun f(a: int): act = &g; fun g(a: int): int = do(f(a), a);", 2);
    fault(due, "fun f(a: int): act = ^&f;");
    fault(due, "fun f(a: list): int = do(^&f, 1);");
    fault(due, "fun f(a: int, b: int): int = do(^&f, 1);");
    unfit(due, "int", "do(^1, 1)");
    unfit(due, "int", "do(^nil, 1)");
    unfit(due, "int", "do(x, ^nil)");
    unfit(due, "int", "do(x, ^x)");
    unfit(due, "list", "^do(x, 1)");
    fits(due, "int", "do(&f, do(x, 1)) + 1");
    fits(due, "int", "do(if a then &f else x, 1)");
  }

  /** What is none, or wrong, has the TYPE that must be there: nothing around it is a fault for it. */
  private static void unknown(Due due) {
    unfit(due, "list", "if a then ^nope else nil");
    unfit(due, "int", "if a then ^nope else nil");
    unfit(due, "list", "if a then ^nope else 1");
    unfit(due, "list", "match l with nil -> ^nope | h, t -> h");
    unfit(due, "list", "(^nope)");
    unfit(due, "list", "let y = 1 in ^nope");
    unfit(due, "list", "^nope(1, 2)");
    unfit(due, "list", "(^nope(nil))");
    unfit(due, "act", "if a then ^nope(1) else x");
    unfit(due, "int", "match ^nope with nil -> 1 | h, t -> h");
    unfit(due, "int", "let y = ^nope in y");
    // a CALL with another number has the TYPE that its FUNCTION gives
    unfit(due, "int", "^(g(1))");
    unfit(due, "int", "(^f(1, 2))");
    unfit(due, "int", "^if a then g(1) else nil");
    unfit(due, "list", "if a then ^g(1) else 1");
    // & NAME is an act, whatever its FUNCTION is
    unfit(due, "int", "^(&nope)");
    unfit(due, "act", "(& ^nope)");
    unfit(due, "int", "^if a then &nope else x");
    unfit(due, "act", "if a then ^&g else 1");
    // an if has the TYPE of its first part, a match too
    unfit(due, "list", "^if a then 1 else 2");
    unfit(due, "int", "^(if a then nil else 1)");
    unfit(due, "list", "^(match l with nil -> 1 | h, t -> t)");
  }

  private static void firstFault(Due due) {
    // the text as a whole comes first
    fault(due, "fun f(a: int): int = b; fun g(a: int): int = ^;");
    fault(due, "fun f(a: int, a: int): int = nil + b ^b;");
    // then the first by its place, whatever it is
    fault(due, "fun f(a: int): int = ^b + nil; fun f(a: int): int = a;");
    fault(due, "fun f(a: int, ^a: int): int = b; fun f(a: int): int = a;");
    fault(due, "fun f(a: int): int = a; fun ^f(a: int, a: int): int = b;");
    fault(due, "fun f(a: int): int = ^nil; fun g(a: int, a: int): int = b;");
    fault(due, "fun f(a: int): int = ^f(nil, b);");
    fault(due, "fun f(a: int): int = f(^nil) + f(1, 2);");
    fault(due, "fun f(a: int): list = f(^b);");
    fault(due, "fun f(a: int): int = ^cons(nil, b);");
    fault(due, "fun f(a: int): int = if a then 1 else ^cons(nil, 1);");
    fault(due, "fun f(a: int): int = ^if nil then nil else 1;");
    fault(due, "fun f(a: int): int = g(a); fun g(a: int): int = ^c + d;");
  }

  private static void stays(Due due) {
    FoldForge x = new FoldForge();
    due.is("program", Due.program(x, "fun f(a: int): int = a * 2; fun g(a: int): int = 7;"), 2);
    x.argument(0, 21);
    String[] ill = {"fun f(a: int): int = ;", "fun g(a: int): int = nil;", "fun h(a: int): list = b;", " "};
    int[] places = {21, 21, 22, 1};
    for (int k = 0; k < ill.length; k++) {
      due.is("ill", Due.program(x, ill[k]), -1 - places[k]);
      due.is("call", x.call(0), 0);
      due.is("the PROGRAM stays", x.outcome(0), 42);
      due.is("call", x.call(1), 0);
      due.is("the PROGRAM stays", x.outcome(0), 7);
      due.is("call", x.call(2), -1);
    }
    due.is("no length", x.program(0), 0);
    due.is("call", x.call(1), 0);
    due.is("module", Due.module(x, Due.header()), 1);
    due.is("call", x.call(1), 0);
    due.is("another", Due.program(x, "fun f(a: int): int = a - 1;"), 1);
    due.is("call", x.call(0), 0);
    due.is("another", x.outcome(0), 20);
    due.is("call", x.call(1), -1);
    due.is("the MODULE stays, too", x.count(5), 0);
  }
}
