import java.util.ArrayList;
import java.util.List;

/** Makes up PROGRAMS from a Dice: most are fine, some have ill TYPES, NAMES or TOKENS in them. */
final class ProgramMaker {
  private static final String[] NAMES = {"a", "b", "c", "x", "y", "f", "g", "a1", "z9", "abcdefghij", "le", "lets", "int1"};
  private static final String[] TYPES = {"int", "int", "int", "list", "act"};
  private static final String[] NUMBERS = {"0", "1", "2", "3", "7", "00012", "2147483647", "46341", "65536"};
  private static final String[] TOKENS = {"fun", "let", "in", "if", "then", "else", "match", "with", "nil", "cons", "do",
      "int", "list", "act", "(", ")", ",", ":", ";", "=", "+", "-", "*", "/", "%", "<", "&", "==", "->", "|", "a", "f",
      "0", "2147483648", "abcdefghijk", "!", ">", ".", "A", "\t"};

  /** Programs that come to the bounds of a RUN: numbers are put where the signs 1 to 3 stand. */
  private static final String[] DEEP = {
      "fun f(n: int): int = if n < $1 then $2 else f(n - 1) + f(n - $3);",
      "fun f(n: int): int = if n < 1 then $2 else f(n - 1) + $3;",
      "fun m(n: int, l: list): list = if n < 1 then l else m(n - 1, cons($2, l)); "
          + "fun s(l: list): int = match l with nil -> 0 | h, t -> h + s(t); "
          + "fun f(n: int): int = if n < 1 then s(m($1, nil)) else f(n - 1) + s(m($3 * 9, nil));",
      "fun g(n: int): int = n % $1 + 7 / (n - $2); fun f(n: int): int = if n == 0 then 1 else do(&g, n) + do(&f, n - 1);"};

  /** A FUNCTION that is told, or will be. */
  private record Told(String name, List<String> arguments, List<String> types, String gives) {
    boolean isAct() {
      return types.equals(List.of("int")) && gives.equals("int");
    }
  }

  /** A NAME that stands around. */
  private record Around(String name, String type) {
  }

  private final Dice dice;
  // how often of a thousand something is not as it should be
  private final int ill;
  private final List<Told> told = new ArrayList<>();
  private final StringBuilder text = new StringBuilder();
  private int left;

  private ProgramMaker(Dice dice) {
    this.dice = dice;
    this.ill = dice.of(0, 0, 0, 10, 60);
  }

  static String make(Dice dice) {
    if (dice.often(60)) {
      String deep = dice.of(DEEP);
      for (int k = 1; k <= 3; k++) {
        deep = deep.replace("$" + k, "" + dice.below(k == 3 ? 4 : 62));
      }
      return deep;
    }
    ProgramMaker maker = new ProgramMaker(dice);
    maker.program();
    String made = maker.text.toString();
    return dice.often(250) ? maker.changed(made) : made;
  }

  private void program() {
    int many = dice.often(30) ? 1 + dice.below(21) : 1 + dice.below(4);
    for (int k = 0; k < many; k++) {
      tell(k);
    }
    for (Told f : told) {
      definition(f);
    }
    put(dice.of(";", ";", ";", ""), dice.often(ill));
  }

  private void put(String token, boolean stands) {
    if (stands && !token.isEmpty()) {
      put(token);
    }
  }

  private void put(String token) {
    if (text.length() > 0 && (runsOn(token.charAt(0)) || dice.often(300))) {
      text.append(dice.of(" ", " ", "\n", "  "));
    }
    text.append(token);
  }

  /** Whether the sign would make another TOKEN of the latest one. */
  private boolean runsOn(char sign) {
    char latest = text.charAt(text.length() - 1);
    return Character.isLetterOrDigit(latest) && Character.isLetterOrDigit(sign) || latest == '=' && sign == '='
        || latest == '-' && sign == '>';
  }

  private void tell(int number) {
    List<String> arguments = new ArrayList<>();
    List<String> types = new ArrayList<>();
    boolean whole = dice.often(500);
    int many = dice.of(1, 1, 2, 3, 4);
    for (int k = 0; k < many; k++) {
      arguments.add(dice.often(ill) ? dice.of(NAMES) : NAMES[(number + 3 * k) % NAMES.length]);
      types.add(whole ? "int" : dice.of(TYPES));
    }
    String name = dice.often(ill) ? dice.of(NAMES) : dice.of("f", "g", "h") + number;
    told.add(new Told(name, arguments, types, whole ? "int" : dice.of(TYPES)));
  }

  private void definition(Told f) {
    put("fun");
    put(f.name);
    put("(");
    List<Around> around = new ArrayList<>();
    for (int k = 0; k < f.arguments.size(); k++) {
      put(",", k > 0);
      put(f.arguments.get(k));
      put(":");
      put(f.types.get(k));
      around.add(0, new Around(f.arguments.get(k), f.types.get(k)));
    }
    put(")");
    put(":");
    put(f.gives);
    put("=");
    left = dice.often(50) ? 180 : 25;
    expression(f.gives, around, dice.often(50) ? 40 : 1 + dice.below(6));
    put(";");
  }

  private static List<Around> with(List<Around> around, String name, String type) {
    List<Around> more = new ArrayList<>(around);
    more.add(0, new Around(name, type));
    return more;
  }

  private void expression(String due, List<Around> around, int depth) {
    String type = dice.often(ill) ? dice.of(TYPES) : due;
    left--;
    switch (depth <= 0 || left <= 0 ? 9 : dice.below(10)) {
      case 0 -> {
        String name = dice.of(NAMES);
        String first = dice.of(TYPES);
        put("let");
        put(name);
        put("=");
        expression(first, around, depth - 1);
        put("in");
        expression(type, with(around, name, first), depth - 1);
      }
      case 1 -> {
        put("if");
        expression("int", around, depth - 1);
        put("then");
        expression(type, around, depth - 1);
        put("else");
        expression(type, around, depth - 1);
      }
      case 2 -> match(type, around, depth);
      case 3 -> {
        sum(type.equals("int") ? "int" : type, around, depth);
        if (type.equals("int")) {
          put(dice.of("<", "=="));
          sum("int", around, depth);
        }
      }
      default -> sum(type, around, depth);
    }
  }

  private void match(String type, List<Around> around, int depth) {
    String head = dice.of(NAMES);
    String tail = dice.of(NAMES);
    put("match");
    expression("list", around, depth - 1);
    put("with");
    put("nil");
    put("->");
    expression(type, around, depth - 1);
    put("|");
    put(head);
    put(",");
    put(tail);
    put("->");
    expression(type, with(with(around, head, "int"), tail, "list"), depth - 1);
  }

  private void sum(String type, List<Around> around, int depth) {
    int more = type.equals("int") && depth > 0 && dice.often(400) ? 1 + dice.below(2) : 0;
    product(type, around, depth);
    for (int k = 0; k < more; k++) {
      put(dice.of("+", "-"));
      product("int", around, depth);
    }
  }

  private void product(String type, List<Around> around, int depth) {
    int more = type.equals("int") && depth > 0 && dice.often(200) ? 1 + dice.below(2) : 0;
    atom(type, around, depth);
    for (int k = 0; k < more; k++) {
      put(dice.of("*", "/", "%"));
      atom("int", around, depth);
    }
  }

  private void atom(String due, List<Around> around, int depth) {
    String type = dice.often(ill) ? dice.of(TYPES) : due;
    String name = dice.often(ill) ? dice.of(NAMES) : nameOf(type, around);
    if (name != null && dice.often(450)) {
      put(name);
    } else if (depth <= 0 || left <= 0) {
      plain(type);
    } else if (!dice.often(400) || !call(type, around, depth)) {
      made(type, around, depth);
    }
  }

  private String nameOf(String type, List<Around> around) {
    List<String> hidden = new ArrayList<>();
    List<String> fit = new ArrayList<>();
    for (Around one : around) {
      if (one.type.equals(type) && !hidden.contains(one.name)) {
        fit.add(one.name);
      }
      hidden.add(one.name);
    }
    return fit.isEmpty() ? null : fit.get(dice.below(fit.size()));
  }

  private boolean call(String type, List<Around> around, int depth) {
    Told f = told.get(dice.below(told.size()));
    if (!f.gives.equals(type) && !dice.often(ill)) {
      return false;
    }
    put(f.name);
    put("(");
    int many = dice.often(ill) ? 1 + dice.below(5) : f.types.size();
    for (int k = 0; k < many; k++) {
      put(",", k > 0);
      expression(k < f.types.size() ? f.types.get(k) : "int", around, depth - 1);
    }
    put(")");
    return true;
  }

  private void made(String type, List<Around> around, int depth) {
    if (dice.often(200)) {
      put("(");
      expression(type, around, depth - 1);
      put(")");
    } else if (type.equals("int") && dice.often(150)) {
      put("-");
      atom("int", around, depth - 1);
    } else if (type.equals("int") && dice.often(150)) {
      pair("do", "act", "int", around, depth);
    } else if (type.equals("list") && dice.often(600)) {
      pair("cons", "int", "list", around, depth);
    } else {
      plain(type);
    }
  }

  private void pair(String word, String first, String second, List<Around> around, int depth) {
    put(word);
    put("(");
    expression(first, around, depth - 1);
    put(",");
    expression(second, around, depth - 1);
    put(")");
  }

  private void plain(String type) {
    if (type.equals("int")) {
      put(dice.of(NUMBERS));
    } else if (type.equals("list")) {
      put("nil");
    } else {
      put("&");
      Told f = told.get(dice.below(told.size()));
      for (Told other : told) {
        f = !f.isAct() && other.isAct() ? other : f;
      }
      put(f.name);
    }
  }

  /** Some signs or TOKENS are left out, put in or changed. */
  private String changed(String whole) {
    StringBuilder some = new StringBuilder(whole);
    int at = dice.below(some.length());
    char sign = (char) (dice.often(900) ? 32 + dice.below(95) : dice.below(256));
    switch (dice.below(6)) {
      case 0 -> some.deleteCharAt(at);
      case 1 -> some.insert(at, sign);
      case 2 -> some.setCharAt(at, sign);
      case 3 -> some.insert(at, " " + dice.of(TOKENS) + " ");
      case 4 -> some.setLength(Math.max(1, at));
      default -> some.delete(at, Math.min(some.length(), at + 1 + dice.below(12)));
    }
    return some.toString();
  }
}
