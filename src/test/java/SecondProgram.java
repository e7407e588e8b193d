import java.util.ArrayList;
import java.util.HashSet;
import java.util.List;
import java.util.Set;

/** A second reading of the document: a PROGRAM's text into a tree, and the first place of a fault. */
final class SecondProgram {
  private static final Set<String> WORDS = Set.of("fun", "let", "in", "if", "then", "else", "match", "with", "nil", "cons",
      "do", "int", "list", "act");
  private static final String SIGNS = "(),:;=+-*/%<&|";

  private static final class Ill extends RuntimeException {
    private static final long serialVersionUID = 1;
    final int at;

    Ill(int at) {
      super(null, null, false, false);
      this.at = at;
    }
  }

  /** An E or a part of one: what it is, where its first byte stands. */
  static final class Node {
    final String what;
    final int at;
    int number;
    String name;
    int nameAt;
    String second;
    final List<Node> parts = new ArrayList<>();

    Node(String what, int at) {
      this.what = what;
      this.at = at;
    }
  }

  static final class Function {
    String name;
    int nameAt;
    final List<String> arguments = new ArrayList<>();
    final List<Integer> argumentAts = new ArrayList<>();
    final List<String> types = new ArrayList<>();
    String gives;
    Node body;

    boolean isAct() {
      return types.equals(List.of("int")) && gives.equals("int");
    }
  }

  final List<Function> functions = new ArrayList<>();
  private final String text;
  private int next = 0;
  // the TOKEN that is looked at: "" is the end, one with a blank ahead of it is none at all
  private String token;
  private int at;
  private int atoms = 0;
  private int fault = Integer.MAX_VALUE;

  SecondProgram(String text) {
    this.text = text;
  }

  /** What program() answers. */
  int answer() {
    try {
      parse();
    } catch (Ill ill) {
      return -1 - ill.at;
    }
    names();
    for (Function f : functions) {
      Names around = null;
      for (int k = 0; k < f.arguments.size(); k++) {
        around = new Names(f.arguments.get(k), f.types.get(k), around);
      }
      must(f.body, around, f.gives);
    }
    return fault == Integer.MAX_VALUE ? functions.size() : -1 - fault;
  }

  Function find(String name) {
    for (Function f : functions) {
      if (f.name.equals(name)) {
        return f;
      }
    }
    return null;
  }

  // TOKENS

  private char sign(int i) {
    return i < text.length() ? text.charAt(i) : 0;
  }

  private static boolean isLetter(char c) {
    return c >= 'a' && c <= 'z';
  }

  private static boolean isDigit(char c) {
    return c >= '0' && c <= '9';
  }

  private void advance() {
    while (sign(next) == ' ' || sign(next) == '\n') {
      next++;
    }
    at = next;
    if (next >= text.length()) {
      token = "";
    } else if (isLetter(sign(next))) {
      token = run(true);
      token = token.length() > 10 ? " " + token : token;
    } else if (isDigit(sign(next))) {
      token = run(false);
      boolean fits = new java.math.BigInteger(token).bitLength() <= 31;
      token = fits ? token : " " + token;
    } else if (text.startsWith("==", next) || text.startsWith("->", next)) {
      token = text.substring(next, next + 2);
      next += 2;
    } else {
      String one = text.substring(next, next + 1);
      token = SIGNS.contains(one) ? one : " " + one;
      next++;
    }
  }

  private String run(boolean letters) {
    int from = next;
    while (isDigit(sign(next)) || letters && isLetter(sign(next))) {
      next++;
    }
    return text.substring(from, next);
  }

  private boolean is(String due) {
    return token.equals(due);
  }

  private boolean isName() {
    return !token.isEmpty() && isLetter(token.charAt(0)) && !WORDS.contains(token);
  }

  private String take() {
    String taken = token;
    advance();
    return taken;
  }

  private void expect(String due) {
    if (!is(due)) {
      throw new Ill(at);
    }
    advance();
  }

  private String name() {
    if (!isName()) {
      throw new Ill(at);
    }
    return take();
  }

  private String type() {
    if (!is("int") && !is("list") && !is("act")) {
      throw new Ill(at);
    }
    return take();
  }

  // the tree

  private void parse() {
    advance();
    do {
      if (functions.size() == 20) {
        throw new Ill(at);
      }
      functions.add(definition());
    } while (!is(""));
  }

  private Function definition() {
    Function f = new Function();
    expect("fun");
    f.nameAt = at;
    f.name = name();
    expect("(");
    argument(f);
    while (is(",") && f.arguments.size() < 4) {
      advance();
      argument(f);
    }
    expect(")");
    expect(":");
    f.gives = type();
    expect("=");
    f.body = expression(1);
    expect(";");
    return f;
  }

  private void argument(Function f) {
    f.argumentAts.add(at);
    f.arguments.add(name());
    expect(":");
    f.types.add(type());
  }

  private Node expression(int open) {
    if (open > 30) {
      throw new Ill(at);
    }
    Node node = new Node(token, at);
    switch (token) {
      case "let":
        advance();
        node.name = name();
        part(node, "=", open);
        part(node, "in", open);
        return node;
      case "if":
        advance();
        node.parts.add(expression(open + 1));
        part(node, "then", open);
        part(node, "else", open);
        return node;
      case "match":
        advance();
        node.parts.add(expression(open + 1));
        expect("with");
        expect("nil");
        part(node, "->", open);
        expect("|");
        node.name = name();
        expect(",");
        node.second = name();
        part(node, "->", open);
        return node;
      default:
        return comparison(open);
    }
  }

  private void part(Node node, String ahead, int open) {
    expect(ahead);
    node.parts.add(expression(open + 1));
  }

  private Node comparison(int open) {
    Node left = sum(open);
    if (!is("<") && !is("==")) {
      return left;
    }
    Node right = new Node(take(), at);
    right.parts.add(sum(open));
    return both(left, right);
  }

  /** An operator's node: the left part, and the right one, which comes with the operator. */
  private static Node both(Node left, Node right) {
    Node node = new Node(right.what, left.at);
    node.parts.add(left);
    node.parts.add(right.parts.get(0));
    return node;
  }

  private Node sum(int open) {
    Node left = product(open);
    while (is("+") || is("-")) {
      Node right = new Node(take(), at);
      right.parts.add(product(open));
      left = both(left, right);
    }
    return left;
  }

  private Node product(int open) {
    Node left = atom(open);
    while (is("*") || is("/") || is("%")) {
      Node right = new Node(take(), at);
      right.parts.add(atom(open));
      left = both(left, right);
    }
    return left;
  }

  private Node atom(int open) {
    atoms++;
    if (atoms > 400) {
      throw new Ill(at);
    }
    if (isName()) {
      return nameOrCall(open);
    }
    if (!token.isEmpty() && isDigit(token.charAt(0))) {
      Node node = new Node("number", at);
      node.number = Integer.parseInt(take());
      return node;
    }
    int where = at;
    switch (token) {
      case "-":
        Node minus = new Node("minus", where);
        advance();
        minus.parts.add(atom(open));
        return minus;
      case "&":
        Node act = new Node(take(), where);
        act.nameAt = at;
        act.name = name();
        return act;
      case "nil":
        return new Node(take(), where);
      case "(":
        Node inner = new Node("(", where);
        part(inner, "(", open);
        expect(")");
        return inner;
      case "cons":
      case "do":
        Node pair = new Node(take(), where);
        part(pair, "(", open);
        part(pair, ",", open);
        expect(")");
        return pair;
      default:
        throw new Ill(at);
    }
  }

  private Node nameOrCall(int open) {
    int where = at;
    String name = take();
    Node node = new Node(is("(") ? "call" : "name", where);
    node.name = name;
    node.nameAt = where;
    if (is("(")) {
      part(node, "(", open);
      while (is(",")) {
        part(node, ",", open);
      }
      expect(")");
    }
    return node;
  }

  // NAMES and TYPES

  /** What stands around an E, the innermost first. */
  private record Names(String name, String type, Names outer) {
    static Names find(Names from, String name) {
      Names around = from;
      while (around != null && !around.name.equals(name)) {
        around = around.outer;
      }
      return around;
    }
  }

  private void note(int where) {
    fault = Math.min(fault, where);
  }

  private void names() {
    Set<String> told = new HashSet<>();
    for (Function f : functions) {
      if (!told.add(f.name)) {
        note(f.nameAt);
      }
      Set<String> arguments = new HashSet<>();
      for (int k = 0; k < f.arguments.size(); k++) {
        if (!arguments.add(f.arguments.get(k))) {
          note(f.argumentAts.get(k));
        }
      }
    }
  }

  /** Null is the TYPE of what is none: it fits each. */
  private void must(Node node, Names around, String due) {
    String is = typeOf(node, around);
    if (is != null && due != null && !is.equals(due)) {
      note(node.at);
    }
  }

  private String typeOf(Node node, Names around) {
    switch (node.what) {
      case "number":
        return "int";
      case "nil":
        return "list";
      case "(":
        return typeOf(node.parts.get(0), around);
      case "name":
        Names found = Names.find(around, node.name);
        note(found == null ? node.at : Integer.MAX_VALUE);
        return found == null ? null : found.type;
      case "&":
        Function f = find(node.name);
        note(f == null ? node.nameAt : f.isAct() ? Integer.MAX_VALUE : node.at);
        return "act";
      case "call":
        return typeOfCall(node, around);
      case "let":
        String told = typeOf(node.parts.get(0), around);
        return typeOf(node.parts.get(1), new Names(node.name, told, around));
      case "if":
        must(node.parts.get(0), around, "int");
        return typeOfParts(node, around, around);
      case "match":
        must(node.parts.get(0), around, "list");
        return typeOfParts(node, around, new Names(node.second, "list", new Names(node.name, "int", around)));
      default:
        return typeOfOperator(node, around);
    }
  }

  private String typeOfParts(Node node, Names first, Names second) {
    String type = typeOf(node.parts.get(1), first);
    must(node.parts.get(2), second, type);
    return type;
  }

  private String typeOfOperator(Node node, Names around) {
    must(node.parts.get(0), around, node.what.equals("do") ? "act" : "int");
    if (node.parts.size() > 1) {
      must(node.parts.get(1), around, node.what.equals("cons") ? "list" : "int");
    }
    return node.what.equals("cons") ? "list" : "int";
  }

  private String typeOfCall(Node node, Names around) {
    Function f = find(node.name);
    if (f == null || f.arguments.size() != node.parts.size()) {
      note(node.nameAt);
    }
    for (int k = 0; k < node.parts.size(); k++) {
      must(node.parts.get(k), around, f != null && k < f.types.size() ? f.types.get(k) : null);
    }
    return f == null ? null : f.gives;
  }
}
