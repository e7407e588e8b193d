/** Promise 13: the bounds of what a PROGRAM is, a sentence at a time. */
public final class BoundsOfProgramTest {
  private static final String DEF = "fun f(a: int): int = ";
  private static final String WORDS = "fun let in if then else match with nil cons do int list act";

  public static void main(String[] args) {
    Due due = Due.begin();
    bytes(due);
    words(due);
    numbers(due);
    signs(due);
    blanks(due);
    definitions(due);
    arguments(due);
    oneComparison(due);
    fromTheLeft(due);
    callParts(due);
    noNames(due);
    firstByte(due);
    theEnd(due);
    open(due);
    atoms(due);
    placeOrder(due);
    noneThere(due);
    innermost(due);
    toldTwice(due);
    anotherNumber(due);
    ofNumbers(due);
    ofParts(due);
    ofCons(due);
    ofDo(due);
    ofActs(due);
    ofArguments(due);
    whatIsNone(due);
    due.end("BoundsOfProgramTest");
  }

  private static void is(Due due, String text, int answer) {
    due.is(text, Due.program(new FoldForge(), text), answer);
  }

  /** A sign ^ stands ahead of the byte that is the fault. */
  private static void fault(Due due, String text) {
    int place = text.indexOf('^');
    is(due, text.substring(0, place) + text.substring(place + 1), -1 - place);
  }

  /** Within a FUNCTION of an int, a list and an act, that gives as told: it is fine, or has its fault at the ^. */
  private static void e(Due due, String gives, String text) {
    String all = "fun one(n: int): int = n; fun two(n: int, l: list): list = l; fun f(a: int, l: list, x: act): " + gives
        + " = " + text + "; fun late(n: int): int = n;";
    if (text.indexOf('^') < 0) {
      is(due, all, 4);
    } else {
      fault(due, all);
    }
  }

  private static String repeat(String part, int times) {
    return part.repeat(Math.max(0, times));
  }

  private static void bytes(Due due) {
    due.sentence("PROGRAMS of the small language, from THE TAPE (bytes 10, 32 .. 126):");
    for (int b = 0; b < 256; b++) {
      boolean may = b == 10 || b == 32;
      boolean word = b >= '0' && b <= '9' || b >= 'a' && b <= 'z';
      if (!word && b != ';') {
        is(due, "fun f(a: int): int = a " + (char) b + " ;", may ? 1 : -1 - (isOperator(b) ? 25 : 23));
        is(due, (char) b + DEF + "a;", may ? 1 : -1);
        is(due, DEF + "a;" + (char) b, may ? 1 : -24);
      }
    }
    for (int b : new int[] {0, 9, 11, 13, 31, 127, 128, 255}) {
      fault(due, DEF + "^" + (char) b + "a;");
      fault(due, DEF + "a^" + (char) b + ";");
    }
  }

  private static boolean isOperator(int b) {
    return "+-*/%<(".indexOf(b) >= 0;
  }

  private static void words(Due due) {
    due.sentence("WORDS (a .. z, then a .. z, 0 .. 9; 10 at most)");
    String ten = "abcdefghij";
    for (int n = 1; n <= 10; n++) {
      String word = "k" + "z0a9bcdefg".substring(0, n - 1);
      is(due, "fun " + word + "(a: int): int = a;", 1);
      is(due, "fun f(" + word + ": int): int = " + word + ";", 1);
      is(due, "fun f(a: int): int = let " + word + " = a in " + word + ";", 1);
    }
    for (int n = 11; n <= 14; n++) {
      String word = ten + "0123".substring(0, n - 10);
      fault(due, "fun ^" + word + "(a: int): int = a;");
      fault(due, "fun f(^" + word + ": int): int = 1;");
      fault(due, "fun f(a: int): int = ^" + word + ";");
      fault(due, "fun f(a: ^" + word + "): int = 1;");
      fault(due, "^" + word);
    }
    fault(due, DEF + "^" + repeat("z", 3000) + ";");
    // the tenth counts, the first, too
    e(due, "int", "let abcdefghij = 1 in ^abcdefghik");
    e(due, "int", "let abcdefghij = 1 in ^bbcdefghij");
    e(due, "int", "let c0 = 1 in ^c");
    e(due, "int", "let b = 1 in ^b0");
    unlikeWords(due);
    for (String other : new String[] {"A", "Z", "_b", "0", "9", "`", "{"}) {
      fault(due, "fun ^" + other + "(a: int): int = 1;");
    }
    fault(due, "fun a^A(a: int): int = 1;");
    fault(due, "fun a^_(a: int): int = 1;");
    for (char c = 'a'; c <= 'z'; c++) {
      is(due, "fun " + c + "(" + c + c + ": int): int = " + c + c + ";", 1);
    }
    for (char c = '0'; c <= '9'; c++) {
      is(due, "fun a" + c + "(b" + c + c + ": int): int = b" + c + c + ";", 1);
    }
  }

  /** WORDS that differ in one or two signs are other WORDS. */
  private static void unlikeWords(Due due) {
    String signs = "abcdefghijklmnopqrstuvwxyz0123456789";
    for (String first : "a b m z".split(" ")) {
      for (int i = 0; i < 36; i++) {
        String one = first + signs.charAt(i);
        String text = DEF + "let " + one + " = 1 in ";
        // an object for a part of them: one has no more than 512 calls
        for (int letter = 0; letter < 26; letter++) {
          FoldForge x = new FoldForge();
          for (int j = 0; j < 36; j++) {
            String other = "" + signs.charAt(letter) + signs.charAt(j);
            if (other.equals("in") || other.equals("if") || other.equals("do")) {
              continue;
            }
            due.is(text + other, Due.program(x, text + other + ";"), one.equals(other) ? 1 : -1 - text.length());
          }
        }
      }
    }
    // each of ten signs counts, at any place, next to any other
    for (int place = 0; place < 10; place++) {
      for (int i = 0; i < 36; i++) {
        for (int j = 1; j < 36; j += 5) {
          StringBuilder other = new StringBuilder("abcdefghij");
          if (place == 0 && i >= 26) {
            continue;
          }
          other.setCharAt(place, signs.charAt(i));
          if (place < 9) {
            other.setCharAt(place + 1, signs.charAt(j));
          }
          boolean same = other.toString().equals("abcdefghij");
          String text = DEF + "let abcdefghij = 1 in ";
          is(due, text + other + ";", same ? 1 : -1 - text.length());
        }
      }
    }
  }

  private static void numbers(Due due) {
    due.sentence("NUMBERS (digits; at most 2147483647)");
    for (String number : new String[] {"0", "9", "10", "2147483646", "2147483647", "000", "0000000000002147483647"}) {
      is(due, DEF + number + ";", 1);
      is(due, DEF + "-" + number + ";", 1);
    }
    for (String number : new String[] {"2147483648", "2147483650", "2147483657", "3000000000", "4294967295", "4294967296",
        "4294967297", "9223372036854775807", "9223372036854775808", "18446744073709551616", "18446744073709551617",
        "0002147483648", "99999999999999999999"}) {
      fault(due, DEF + "^" + number + ";");
      fault(due, DEF + "-^" + number + ";");
      fault(due, DEF + "a + ^" + number + ";");
    }
    fault(due, DEF + "^" + repeat("9", 3000) + ";");
    is(due, DEF + repeat("0", 3000) + "1;", 1);
    FoldForge x = new FoldForge();
    due.is("program", Due.program(x, DEF + "2147483647;"), 1);
    due.is("call", x.call(0), 0);
    due.is("gives", x.outcome(0), 2147483647);
  }

  private static void signs(Due due) {
    due.sentence("SIGNS ( ) , : ; = + - * / % < &, and == -> |;");
    for (int c = 33; c < 127; c++) {
      boolean word = c >= '0' && c <= '9' || c >= 'a' && c <= 'z';
      if (!word && "(),:;=+-*/%<&|".indexOf(c) < 0) {
        String sign = c == '^' ? "^^" : "^" + (char) c;
        fault(due, DEF + "a " + sign + " 1;");
        fault(due, DEF + sign + " 1;");
        fault(due, DEF + "1;" + sign);
      }
    }
    is(due, DEF + "a==1;", 1);
    fault(due, DEF + "a ^= = 1;");
    fault(due, DEF + "a ==^= 1;");
    fault(due, "fun f(a: int): int ^== 1;");
    e(due, "int", "match l with nil->0|h,t->h");
    e(due, "int", "match l with nil ^- > 0 | h, t -> h");
    e(due, "int", "match l with nil -> 0 | h, t ^- > h");
    e(due, "int", "a ^-> 1");
    e(due, "int", "a - ^> 1");
    e(due, "int", "a--1");
    e(due, "int", "a - -^-> 1");
    e(due, "int", "a<-1");
  }

  private static void blanks(Due due) {
    due.sentence("blanks and 10 between.");
    is(due, "fun f(a:int):int=a;", 1);
    is(due, "  \n fun \n f ( a : int ) : int = a ; \n ", 1);
    is(due, "\n" + DEF + "a;\n", 1);
    is(due, DEF + "if a then 1else 2;", 1);
    is(due, DEF + "if 1then 1 else 2;", 1);
    fault(due, DEF + "ifa ^then 1 else 2;");
    fault(due, "fun f(a: int): ^in t = a;");
    fault(due, DEF + "1 ^2;");
    fault(due, "^funf(a: int): int = a;");
    fault(due, DEF + "a ^= = 1;");
  }

  private static void definitions(Due due) {
    due.sentence("PROGRAM: DEFINITIONS, 20 at most, one at least:");
    StringBuilder all = new StringBuilder();
    for (int k = 1; k <= 20; k++) {
      all.append("fun f").append(k).append("(a: int): int = a;");
      is(due, all.toString(), k);
      is(due, all + "\n", k);
    }
    fault(due, all + "^fun f21(a: int): int = a;");
    fault(due, all + " ^fun");
    fault(due, all + "^a");
    fault(due, all + "^;");
    fault(due, " ^");
    fault(due, "\n\n^");
    fault(due, "^;");
  }

  private static void arguments(Due due) {
    due.sentence("with 1 to 4 ARGUMENTS.");
    String[] types = {"int", "list", "act"};
    StringBuilder told = new StringBuilder();
    for (int k = 0; k < 4; k++) {
      told.append(k == 0 ? "" : ", ").append("a").append(k).append(": ").append(types[k % 3]);
      is(due, "fun f(" + told + "): int = a0;", 1);
      fault(due, "fun f(" + told + (k < 3 ? ",^" : "^,") + "): int = a0;");
      fault(due, "fun f(" + told + "^: int): int = a0;");
    }
    fault(due, "fun f(^): int = 1;");
    fault(due, "fun f^: int = 1;");
    fault(due, "fun f(^, a: int): int = 1;");
    fault(due, "fun f(" + told + "^, a4: int): int = a0;");
    fault(due, "fun f(" + told + "^,): int = a0;");
    fault(due, "fun f(" + told + " ^a4: int): int = a0;");
  }

  private static void oneComparison(Due due) {
    due.sentence("SUM, or SUM < SUM, SUM == SUM.");
    for (String one : new String[] {"<", "=="}) {
      e(due, "int", "a " + one + " 1");
      e(due, "int", "a + 1 " + one + " 1 * 2");
      e(due, "int", "(a " + one + " 1) " + one + " 2");
      e(due, "int", "a " + one + " (1 " + one + " 2)");
      e(due, "int", "if a " + one + " 1 then a " + one + " 2 else a " + one + " 3");
      for (String other : new String[] {"<", "=="}) {
        e(due, "int", "a " + one + " 1 ^" + other + " 2");
      }
      e(due, "int", "^" + one + " 1");
      e(due, "int", "a " + one + " ^" + one + " 1");
      e(due, "int", "- ^" + one + " 1");
      e(due, "int", "a " + one + " ^if a then 1 else 2");
    }
  }

  private static void fromTheLeft(Due due) {
    due.sentence("SUM: PRODUCTS with + - between; PRODUCT: ATOMS with * / % between (both from the left).");
    String[] all = {"100 - 10 - 1", "100 / 10 / 5", "100 % 60 % 30", "100 / 10 * 5", "7 * 5 % 4", "2 + 3 * 4", "2 * 3 + 4",
        "20 - 6 / 2", "20 - 3 + 2", "- 2 * 3 - - 4", "100 - 20 / 3 % 4 * 2 + 1"};
    int[] wanted = {89, 2, 10, 50, 3, 14, 10, 17, 19, -2, 97};
    for (int k = 0; k < all.length; k++) {
      FoldForge x = new FoldForge();
      due.is(all[k], Due.program(x, DEF + all[k] + ";"), 1);
      due.is(all[k] + ": call", x.call(0), 0);
      due.is(all[k] + " gives", x.outcome(0), wanted[k]);
    }
    for (String sign : "+ * / %".split(" ")) {
      e(due, "int", "a " + sign + " ^");
      e(due, "int", "^" + sign + " a");
      e(due, "int", "a " + sign + " ^" + sign + " a");
    }
    e(due, "int", "a - ^");
    e(due, "int", "- ^");
  }

  private static void callParts(Due due) {
    due.sentence("NAME ( E {, E} );");
    e(due, "int", "one(1)");
    e(due, "int", "one ( 1 )");
    e(due, "int", "one(^)");
    e(due, "int", "one(1 ^2)");
    e(due, "int", "one(1, ^)");
    e(due, "int", "one(^, 1)");
    e(due, "int", "one(1 ^;");
    e(due, "list", "two(1, nil)");
    e(due, "list", "two(1 ^nil)");
    e(due, "int", "one(let y = 1 in y)");
    e(due, "int", "one(1) ^(1)");
    e(due, "int", "1 ^(1)");
    is(due, DEF + "f(1);", 1);
  }

  private static void noNames(Due due) {
    due.sentence("The words fun let in if then else match with nil cons do int list act are no NAMES.");
    for (String word : WORDS.split(" ")) {
      fault(due, "fun ^" + word + "(a: int): int = 1;");
      fault(due, "fun f(^" + word + ": int): int = 1;");
      fault(due, "fun f(a: int, ^" + word + ": int): int = 1;");
      fault(due, DEF + "let ^" + word + " = 1 in 1;");
      fault(due, DEF + "match nil with nil -> 1 | ^" + word + ", t -> 1;");
      fault(due, DEF + "match nil with nil -> 1 | h, ^" + word + " -> 1;");
      fault(due, DEF + "do(&^" + word + ", 1);");
      // a letter more or less makes a NAME of it
      is(due, "fun " + word + "0(" + word + "x: int): int = " + word + "x;", 1);
      String less = word.substring(0, word.length() - 1);
      if (!less.isEmpty() && !less.equals("in")) {
        is(due, "fun f(" + less + ": int): int = " + less + ";", 1);
      }
    }
    for (String word : "fun in then else with int list act".split(" ")) {
      fault(due, DEF + "^" + word + ";");
      fault(due, DEF + "1 + ^" + word + ";");
    }
    for (String word : "let if match".split(" ")) {
      fault(due, DEF + "1 + ^" + word + " 1;");
    }
  }

  private static void firstByte(Due due) {
    due.sentence("An ill program: the first byte of the TOKEN (or the end) with which no PROGRAM goes on, as -1 less it;");
    fault(due, "^1");
    fault(due, "   ^==");
    fault(due, "fun ^12345");
    fault(due, "fun f(a: ^abcdef): int = 1;");
    fault(due, "fun f(a: int): int = let y ^== 1 in y;");
    fault(due, DEF + "match nil with nil -> 1 | h ^-> 1;");
    fault(due, DEF + "a ^then 1;");
    fault(due, "fun f(a: int): int = ^;");
    // what is ill further on does not count, nor what is wrong ahead of it
    fault(due, DEF + "b ^) ) ;");
    fault(due, "fun f(a: int, a: int): int = nil + b ^else;");
  }

  private static void theEnd(Due due) {
    due.sentence("(or the end)");
    String[] tokens = ("fun f ( a : int , b : list ) : int = let c = a + 1 in if c < 2 then match b with nil -> f ( c , b )"
        + " | h , t -> - h else do ( & f2 , ( c ) ) * cons ( 1 , nil ) == 2 / 3 % 4 ; fun g ( a : act ) : act = a ;")
        .split(" ");
    String text = "";
    boolean ill = true;
    for (String token : tokens) {
      due.is("the first TOKENS: " + text, Due.program(new FoldForge(), text + " ") == -2 - text.length() ? 1 : 0,
          ill ? 1 : 0);
      text = text.isEmpty() ? token : text + " " + token;
      // behind a whole DEFINITION a PROGRAM may end: then it is another fault
      ill = !token.equals(";");
    }
    fault(due, text.replace("f2", "^f2"));
    fault(due, "fun^");
    fault(due, "fun   ^");
    fault(due, "fun f(a: int): int = a^");
    fault(due, "fun f(a: int): int = a \n\n ^");
    fault(due, DEF + "if a then 1^");
    fault(due, DEF + "a -^");
  }

  private static void open(Due due) {
    due.sentence("OPEN E (within one another) at most 30,");
    String[] ahead = {"(", "f(", "-(", "1 + (", "let b = ", "let b = 1 in ", "if ", "if a then ", "if a then 1 else ",
        "match nil with nil -> ", "match nil with nil -> 1 | h, t -> ", "do(&f, "};
    String[] behind = {")", ")", ")", ")", " in 1", "", " then 1 else 1", " else 1", "", " | h, t -> 1", "", ")"};
    for (int k = 0; k < ahead.length; k++) {
      for (int n = 28; n <= 30; n++) {
        String text = DEF + repeat(ahead[k], n) + (n == 30 ? "^" : "") + "1" + repeat(behind[k], n) + ";";
        if (n < 30) {
          is(due, text, 1);
        } else {
          int first = text.indexOf('^');
          // where an E that is closed stands ahead of the last one, it is the 31st, too
          int other = DEF.length() + 29 * ahead[k].length() + firstInner(ahead[k]);
          is(due, text.replace("^", ""), -1 - Math.min(first, other));
        }
      }
    }
    String list = "fun f(a: int): list = ";
    is(due, list + repeat("cons(1, ", 29) + "nil" + repeat(")", 29) + ";", 1);
    fault(due, list + repeat("cons(1, ", 29) + "cons(^1, nil" + repeat(")", 30) + ";");
    is(due, list + "match " + repeat("(", 28) + "nil" + repeat(")", 28) + " with nil -> nil | h, t -> t;", 1);
    fault(due, list + "match " + repeat("(", 29) + "^nil" + repeat(")", 29) + " with nil -> nil | h, t -> t;");
    // the TOKEN that is too many is the first one of the 31st E, whatever it is
    fault(due, DEF + repeat("(", 30) + "^let");
    fault(due, DEF + repeat("(", 30) + "^)");
    fault(due, DEF + repeat("(", 30) + "^");
    // those that are closed are not OPEN; each DEFINITION has its own
    is(due, DEF + repeat("(", 29) + "1" + repeat(")", 29) + " + " + repeat("(", 29) + "1" + repeat(")", 29) + ";", 1);
    is(due, DEF + repeat("(", 29) + "1" + repeat(")", 29) + "; fun g(a: int): int = " + repeat("(", 29) + "1"
        + repeat(")", 29) + ";", 2);
    fault(due, DEF + repeat("(", 29) + "1" + repeat(")", 29) + "; fun g(a: int): int = " + repeat("(", 30) + "^1"
        + repeat(")", 30) + ";");
    is(due, DEF + repeat("- ", 50) + repeat("(", 29) + "1" + repeat(")", 29) + ";", 1);
  }

  /** Where within it the first E begins that is told in it. */
  private static int firstInner(String ahead) {
    if (ahead.startsWith("if")) {
      return 3;
    }
    if (ahead.startsWith("let")) {
      return 8;
    }
    if (ahead.startsWith("match")) {
      return 6;
    }
    return ahead.equals("do(&f, ") ? 3 : ahead.length();
  }

  private static void atoms(Due due) {
    due.sentence("ATOMS in all 400: at the TOKEN that is too many.");
    // each row: an E of so many ATOMS, to be put together by +
    String[] kinds = {"1", "a", "-1", "--a", "(a)", "f(a)", "do(&f, a)", "f(-a)", "(-(a))"};
    int[] many = {1, 1, 2, 3, 2, 2, 3, 3, 4};
    for (int k = 0; k < kinds.length; k++) {
      int times = 400 / many[k];
      int rest = 400 - times * many[k];
      String all = kinds[k] + repeat(" + " + kinds[k], times - 1) + repeat(" + 1", rest);
      is(due, DEF + all + ";", 1);
      fault(due, DEF + all + " + ^1;");
      fault(due, DEF + all + " + ^f(1);");
      fault(due, DEF + all + " + ^");
      fault(due, DEF + all + " * ^-1;");
      String less = kinds[k] + repeat(" + " + kinds[k], times - 1) + repeat(" + 1", rest - 1);
      if (rest > 0) {
        is(due, DEF + less + ";", 1);
        fault(due, DEF + less + " + -^1;");
        fault(due, DEF + less + " + (^1);");
        fault(due, DEF + less + " + f(^1);");
        fault(due, DEF + less + " + do(^&f, 1);");
      }
    }
    String lists = "fun f(a: int): list = ";
    String most = lists + "if 1" + repeat(" + 1", 396);
    is(due, most + " then nil else nil;", 1);
    fault(due, most + " then nil else cons(1, ^nil);");
    fault(due, most + " then cons(1, nil) else ^nil;");
    // those of all DEFINITIONS
    StringBuilder all = new StringBuilder();
    for (int k = 0; k < 20; k++) {
      all.append("fun f").append(k).append("(a: int): int = 1").append(repeat("+1", 19)).append(';');
    }
    is(due, all.toString(), 20);
    String text = all.substring(0, all.length() - 1);
    fault(due, text + "+^1;");
    fault(due, text + "+^");
    is(due, text + " ;", 20);
    // NAMES of let and match, and of ARGUMENTS, are none
    is(due, DEF + "let b = 1 in let c = 2 in 1" + repeat(" + 1", 397) + ";", 1);
    fault(due, DEF + "let b = 1 in let c = 2 in 1" + repeat(" + 1", 397) + " + ^1;");
    is(due, DEF + "match nil with nil -> 1 | h, t -> 1" + repeat(" + 1", 397) + ";", 1);
    fault(due, DEF + "match nil with nil -> 1 | h, t -> 1" + repeat(" + 1", 397) + " + ^1;");
  }

  private static void placeOrder(Due due) {
    due.sentence("Then the first, by its place, of:");
    String[] faults = {"^b", "^g(1)", "f(^nil)", "^f(1, 2)", "1 + ^nil", "if ^nil then 1 else 1", "if 1 then 1 else ^nil",
        "(match ^1 with nil -> 1 | h, t -> 1)", "do(^1, 1)", "do(^&k, 1)", "do(&^nope, 1)", "-^nil"};
    for (String one : faults) {
      for (String other : faults) {
        fault(due, DEF + "(" + one + ") + (" + other.replace("^", "") + "); fun k(a: list): int = 1;");
        fault(due, DEF + one + "; fun k(a: list): int = " + other.replace("^", "") + ";");
        fault(due, DEF + one + "; fun k(a: list, a: int): int = 1; fun k(a: int): int = 1;");
      }
      fault(due, "fun f(a: int, ^a: int): int = " + one.replace("^", "") + "; fun k(a: list): int = 1;");
      fault(due, "fun k(a: list): int = 1; fun ^k(a: int): int = " + one.replace("^", "").replace("f(", "k(") + ";");
    }
  }

  private static void noneThere(Due due) {
    due.sentence("a NAME that is none there (a CALL, &: a FUNCTION, also one told later;");
    e(due, "int", "one(1) + late(1)");
    e(due, "int", "^nope(1)");
    e(due, "int", "^a(1)");
    e(due, "int", "let y = 1 in ^y(1)");
    e(due, "int", "do(&one, 1) + do(&late, 1)");
    e(due, "int", "do(&^nope, 1)");
    e(due, "int", "do(& ^x, 1)");
    e(due, "int", "let y = x in do(&^y, 1)");
    e(due, "int", "^one");
    e(due, "int", "^late");
    e(due, "int", "^f");
    is(due, DEF + "f(a);", 1);
    is(due, "fun f(a: int): int = do(&f, a);", 1);
  }

  private static void innermost(Due due) {
    due.sentence("else an ARGUMENT or NAME of let, match around it, the innermost first),");
    e(due, "int", "a");
    e(due, "int", "^b");
    e(due, "int", "^n");
    e(due, "int", "let y = 1 in y");
    e(due, "int", "let y = ^y in y");
    e(due, "int", "let y = a in let y = y in y");
    e(due, "int", "(let y = 1 in y) + ^y");
    e(due, "int", "^let a = nil in a");
    e(due, "int", "let a = nil in 1 + ^a");
    e(due, "int", "let y = nil in let y = 1 in y");
    e(due, "int", "(let a = nil in 1) + a");
    e(due, "int", "(let a = nil in 1) + (let b = a in b)");
    e(due, "int", "match l with nil -> ^h | h, t -> 1");
    e(due, "int", "match ^h with nil -> 1 | h, t -> 1");
    e(due, "int", "match l with nil -> 1 | h, t -> h");
    e(due, "int", "(match l with nil -> 1 | h, t -> h) + ^h");
    e(due, "list", "match l with nil -> l | h, l -> l");
    e(due, "list", "match l with nil -> l | l, t -> ^l");
    e(due, "list", "match l with nil -> l | l, t -> match t with nil -> t | h, l -> l");
    e(due, "list", "^let l = 1 in l");
    e(due, "list", "let l = 1 in cons(1, ^l)");
    is(due, "fun f(a: int): int = a; fun g(b: int): int = b;", 2);
    fault(due, "fun f(a: int): int = a; fun g(b: int): int = ^a;");
    fault(due, "fun f(a: int): int = ^b; fun g(b: int): int = b;");
  }

  private static void toldTwice(Due due) {
    due.sentence("a FUNCTION's NAME told twice, an ARGUMENT's twice,");
    is(due, "fun f(a: int): int = a; fun g(a: int): int = a; fun h(a: int): int = a;", 3);
    fault(due, "fun f(a: int): int = a; fun ^f(a: int): int = a;");
    fault(due, "fun f(a: int): int = a; fun g(a: int): int = a; fun ^f(a: int): int = a;");
    fault(due, "fun f(a: int): int = a; fun g(a: int): int = a; fun ^g(a: int): int = a;");
    fault(due, "fun f(a: int): int = a; fun ^f(a: int): int = a; fun f(a: int): int = a;");
    fault(due, "fun f(a: int, ^a: int): int = 1;");
    fault(due, "fun f(a: int, b: int, ^a: int): int = 1;");
    fault(due, "fun f(a: int, b: int, ^b: int): int = 1;");
    fault(due, "fun f(a: int, b: int, c: int, ^a: int): int = 1;");
    fault(due, "fun f(a: int, b: int, c: int, ^c: int): int = 1;");
    fault(due, "fun f(a: int, ^a: int, a: int, a: int): int = 1;");
    is(due, "fun f(f: int, g: int): int = f; fun g(f: int, g: int): int = g;", 2);
    StringBuilder all = new StringBuilder();
    for (int k = 0; k < 19; k++) {
      all.append("fun f").append(k).append("(a: int): int = a;");
    }
    fault(due, all + "fun ^f0(a: int): int = a;");
    fault(due, all + "fun ^f18(a: int): int = a;");
    is(due, all + "fun f19(a: int): int = a;", 20);
  }

  private static void anotherNumber(Due due) {
    due.sentence("a CALL with another number of E (at its NAME);");
    for (int takes = 1; takes <= 4; takes++) {
      String told = "a: int" + ", b: int, c: int, d: int".substring(0, 8 * (takes - 1));
      for (int n = 1; n <= 6; n++) {
        String call = "g(1" + repeat(", 1", n - 1) + ")";
        String text = "fun g(" + told + "): int = 1; fun f(a: int): int = 1 + ^" + call + ";";
        if (n == takes) {
          is(due, text.replace("^", ""), 2);
        } else {
          fault(due, text);
        }
      }
    }
    e(due, "list", "^two(1)");
    e(due, "list", "^two(1, nil, nil)");
    e(due, "list", "^two(nil)");
    e(due, "int", "one(^one(1, 2))");
    fault(due, DEF + "^f(1" + repeat(", 1", 398) + ");");
    fault(due, DEF + "f(1" + repeat(", 1", 398) + ", ^1);");
  }

  private static void ofNumbers(Due due) {
    due.sentence("of + - * / % < == - NUMBERS, if's first: int;");
    for (String sign : "+ - * / % < ==".split(" ")) {
      e(due, "int", "a " + sign + " 1");
      for (String other : new String[] {"l", "nil", "x", "&one", "(l)", "cons(1, nil)", "two(1, l)"}) {
        e(due, "int", "^" + other + " " + sign + " 1");
        e(due, "int", "1 " + sign + " ^" + other);
        e(due, "int", "1 " + sign + " (1 + ^" + other + ")");
        e(due, "int", "^" + other + " " + sign + " " + other);
      }
      e(due, "list", "^a " + sign + " 1");
      e(due, "act", "^1 " + sign + " a");
    }
    e(due, "int", "1 + 2 - ^nil");
    e(due, "int", "1 + 2 * ^nil");
    e(due, "int", "1 * 2 + ^nil");
    e(due, "int", "1 + ^nil * 2");
    e(due, "int", "1 < 2 + ^nil");
    e(due, "int", "-^nil");
    e(due, "int", "--^l");
    e(due, "int", "-^(x)");
    e(due, "list", "^-1");
    e(due, "list", "^1");
    e(due, "act", "^2147483647");
    e(due, "int", "if a then 1 else 2");
    e(due, "int", "if ^l then 1 else 2");
    e(due, "int", "if ^&one then 1 else 2");
    e(due, "int", "if ^(nil) then 1 else 2");
    e(due, "int", "if ^let y = 1 in nil then 1 else 2");
  }

  private static void ofParts(Due due) {
    due.sentence("of both parts of if and match: one TYPE (at the second one);");
    String[] types = {"int", "list", "act"};
    String[] parts = {"a", "l", "x"};
    for (int k = 0; k < 3; k++) {
      for (int j = 0; j < 3; j++) {
        String mark = k == j ? "" : "^";
        e(due, types[k], "if a then " + parts[k] + " else " + mark + parts[j]);
        e(due, types[k], "match l with nil -> " + parts[k] + " | h, t -> " + mark + parts[j]);
        e(due, types[k], "let y = if a then " + parts[j] + " else " + parts[j] + " in " + parts[k]);
        if (k != j) {
          e(due, types[k], "^if a then " + parts[j] + " else " + parts[j]);
          e(due, types[k], "^if a then " + parts[j] + " else " + parts[k]);
          e(due, types[k], "^match l with nil -> " + parts[j] + " | h, t -> " + parts[k]);
        }
      }
    }
    e(due, "int", "if a then 1 else ^(nil)");
    e(due, "int", "if a then 1 else ^if a then nil else 1");
    e(due, "int", "if a then if a then 1 else ^nil else 1");
    e(due, "int", "match l with nil -> 1 | h, t -> ^t");
  }

  private static void ofCons(Due due) {
    due.sentence("of cons: int, list; of match: list;");
    e(due, "list", "cons(1, nil)");
    e(due, "list", "cons(a, l)");
    e(due, "list", "cons(^l, l)");
    e(due, "list", "cons(^x, l)");
    e(due, "list", "cons(a, ^a)");
    e(due, "list", "cons(a, ^x)");
    e(due, "list", "cons(^l, a)");
    e(due, "int", "^cons(a, l)");
    e(due, "act", "^cons(a, l)");
    e(due, "int", "^nil");
    e(due, "int", "match l with nil -> 1 | h, t -> 1");
    e(due, "int", "match ^a with nil -> 1 | h, t -> 1");
    e(due, "int", "match ^x with nil -> 1 | h, t -> 1");
    e(due, "int", "match l with nil -> 1 | h, t -> ^t + h");
    e(due, "list", "match l with nil -> l | h, t -> cons(h, t)");
    e(due, "list", "match l with nil -> l | h, t -> cons(^t, t)");
    e(due, "list", "match l with nil -> l | h, t -> cons(h, ^h)");
  }

  private static void ofDo(Due due) {
    due.sentence("of do: act, int (gives int);");
    e(due, "int", "do(x, a)");
    e(due, "int", "do(^a, a)");
    e(due, "int", "do(^l, a)");
    e(due, "int", "do(x, ^l)");
    e(due, "int", "do(x, ^x)");
    e(due, "int", "do(^1, nil)");
    e(due, "list", "^do(x, a)");
    e(due, "act", "^do(x, a)");
    e(due, "int", "do(x, a) + 1");
  }

  private static void ofActs(Due due) {
    due.sentence("& NAME: act, if its FUNCTION has one ARGUMENT int and gives int (at the &);");
    String[] takes = {"a: int", "a: list", "a: act", "a: int, b: int", "a: int, b: list", "a: list, b: int",
        "a: int, b: int, c: int, d: int"};
    String[] gives = {"int", "list", "act"};
    for (int k = 0; k < takes.length; k++) {
      for (int j = 0; j < gives.length; j++) {
        boolean may = k == 0 && j == 0;
        String later = "; fun g(" + takes[k] + "): " + gives[j] + " = " + (j == 0 ? "1" : j == 1 ? "nil" : "&f") + ";";
        String text = DEF + "do(" + (may ? "" : "^") + "& g, 1)" + later;
        if (may) {
          is(due, text, 2);
        } else {
          fault(due, text);
        }
      }
    }
    e(due, "act", "&one");
    e(due, "act", "& late");
    e(due, "act", "^&two");
    e(due, "act", "^& f");
    e(due, "int", "^&one");
    e(due, "list", "^&one");
  }

  private static void ofArguments(Due due) {
    due.sentence("ARGUMENTS; what a FUNCTION gives.");
    String[] types = {"int", "list", "act"};
    String[] values = {"i", "l", "x"};
    for (int k = 0; k < 3; k++) {
      for (int j = 0; j < 3; j++) {
        String mark = k == j ? "" : "^";
        String head = "fun f(i: int, l: list, x: act): int = 1 + ";
        String tail = "; fun g(a: " + types[k] + "): int = 1; fun h(a: int, b: list, c: act, d: " + types[k] + "): int = 1;";
        String one = head + "g(" + mark + values[j] + ")" + tail;
        String last = head + "h(i, l, x, " + mark + values[j] + ")" + tail;
        String gives = "fun f(i: int, l: list, x: act): " + types[k] + " = " + mark + values[j] + ";";
        if (k == j) {
          is(due, one, 3);
          is(due, last, 3);
          is(due, gives, 1);
        } else {
          fault(due, one);
          fault(due, last);
          fault(due, gives);
        }
      }
    }
    e(due, "list", "two(^l, l)");
    e(due, "list", "two(^l, a)");
    e(due, "list", "two(a, ^a)");
    e(due, "int", "^two(a, l)");
    e(due, "list", "^one(a)");
    e(due, "list", "^let y = 1 in y");
    e(due, "list", "^(1)");
  }

  private static void whatIsNone(Due due) {
    due.sentence("(What is none, or wrong, has the TYPE that must be there, but a CALL with another number of E that which"
        + " its FUNCTION gives, and & NAME act; an if, a match that of its first part.)");
    for (String gives : new String[] {"int", "list", "act"}) {
      e(due, gives, "^nope");
      e(due, gives, "(^nope)");
      e(due, gives, "^nope(1)");
      e(due, gives, "(^nope(1, nil))");
      e(due, gives, "let y = 1 in ^nope");
      e(due, gives, "if a then ^nope else l");
      e(due, gives, "if a then ^nope else 1");
      e(due, gives, "match l with nil -> ^nope | h, t -> t");
      e(due, gives, "match l with nil -> ^nope | h, t -> h");
    }
    e(due, "int", "(^one(1, 2))");
    e(due, "list", "^(one(1, 2))");
    e(due, "list", "^if a then one(1, 2) else nil");
    e(due, "int", "if a then ^one(1, 2) else nil");
    e(due, "list", "(^two(1))");
    e(due, "int", "^(two(1))");
    e(due, "act", "(^&two)");
    e(due, "int", "^(&two)");
    e(due, "int", "^(&nope)");
    e(due, "int", "^if a then &nope else 1");
    e(due, "act", "if a then &^nope else 1");
    // what is wrong has the TYPE that must be there: what is around it has no fault for it
    e(due, "int", "(1 + ^nil)");
    e(due, "list", "(cons(^nil, 1))");
    e(due, "int", "(do(^1, nil))");
    e(due, "int", "if a then 1 else ^nil");
    e(due, "int", "1 + (if a then 1 else ^nil)");
    e(due, "int", "1 + ^(if a then nil else 1)");
    e(due, "int", "1 + ^(match l with nil -> nil | h, t -> 1)");
    e(due, "list", "^if a then (if a then 1 else nil) else nil");
  }
}
