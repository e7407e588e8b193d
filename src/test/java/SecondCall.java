/** A second reading of the document: a RUN of a FUNCTION of a PROGRAM, along its tree. */
final class SecondCall {
  private static final class Failed extends RuntimeException {
    private static final long serialVersionUID = 1;
    final int error;

    Failed(int error) {
      super(null, null, false, false);
      this.error = error;
    }
  }

  private record Cell(int head, Cell tail) {
  }

  /** What stands around an E: NAMES and what they are worth, the innermost first. */
  private record Bound(String name, Object value, Bound outer) {
    static Object find(Bound from, String name) {
      Bound around = from;
      while (!around.name.equals(name)) {
        around = around.outer;
      }
      return around.value;
    }
  }

  private final SecondProgram program;
  private int nested = 0;
  int conses = 0;
  int calls = 0;
  int deepest = 0;
  int error = 0;
  int gave = 0;
  int answer;

  SecondCall(SecondProgram program, int number, long[] arguments) {
    this.program = program;
    answer = number >= 0 && number < program.functions.size() ? 0 : -1;
    SecondProgram.Function f = answer == 0 ? program.functions.get(number) : null;
    if (f == null || !f.gives.equals("int") || f.types.contains("list") || f.types.contains("act")) {
      answer = -1;
      return;
    }
    Object[] values = new Object[f.arguments.size()];
    for (int k = 0; k < values.length; k++) {
      values[k] = (int) arguments[k];
    }
    try {
      gave = (Integer) call(f, values);
    } catch (Failed failed) {
      error = failed.error;
      answer = 2;
    }
  }

  private Object call(SecondProgram.Function f, Object... values) {
    if (nested == 60) {
      throw new Failed(3);
    }
    if (calls == 5000) {
      throw new Failed(4);
    }
    calls++;
    nested++;
    deepest = Math.max(deepest, nested);
    Bound around = null;
    for (int k = 0; k < values.length; k++) {
      around = new Bound(f.arguments.get(k), values[k], around);
    }
    Object given = worth(f.body, around);
    nested--;
    return given;
  }

  private int whole(SecondProgram.Node node, Bound around) {
    return (Integer) worth(node, around);
  }

  private Object worth(SecondProgram.Node node, Bound around) {
    switch (node.what) {
      case "number":
        return node.number;
      case "nil":
        return null;
      case "(":
        return worth(node.parts.get(0), around);
      case "name":
        return Bound.find(around, node.name);
      case "&":
        return program.find(node.name);
      case "minus":
        return -whole(node.parts.get(0), around);
      case "let":
        return worth(node.parts.get(1), new Bound(node.name, worth(node.parts.get(0), around), around));
      case "if":
        return worth(node.parts.get(whole(node.parts.get(0), around) != 0 ? 1 : 2), around);
      case "match":
        Cell cell = (Cell) worth(node.parts.get(0), around);
        return cell == null ? worth(node.parts.get(1), around)
            : worth(node.parts.get(2), new Bound(node.second, cell.tail, new Bound(node.name, cell.head, around)));
      case "call":
        Object[] values = new Object[node.parts.size()];
        for (int k = 0; k < values.length; k++) {
          values[k] = worth(node.parts.get(k), around);
        }
        return call(program.find(node.name), values);
      default:
        return ofTwo(node.what, worth(node.parts.get(0), around), worth(node.parts.get(1), around));
    }
  }

  private Object ofTwo(String what, Object left, Object right) {
    switch (what) {
      case "do":
        return call((SecondProgram.Function) left, right);
      case "cons":
        if (conses == 500) {
          throw new Failed(2);
        }
        conses++;
        return new Cell((Integer) left, (Cell) right);
      default:
        return operated(what, (Integer) left, (Integer) right);
    }
  }

  private static int operated(String what, int left, int right) {
    if (right == 0 && (what.equals("/") || what.equals("%"))) {
      throw new Failed(1);
    }
    return switch (what) {
      case "+" -> left + right;
      case "-" -> left - right;
      case "*" -> left * right;
      case "/" -> left / right;
      case "%" -> left % right;
      case "<" -> left < right ? 1 : 0;
      default -> left == right ? 1 : 0;
    };
  }
}
