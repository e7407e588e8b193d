import java.util.ArrayDeque;
import java.util.Arrays;
import java.util.List;

/** A second reading of the document: a RUN of a FUNCTION of a MODULE that is MADE, along the tree of its INSTRUCTIONS. */
final class SecondRun {
  private static final long LOW = 0xFFFFFFFFL;
  private static final int GO_ON = -1;
  // further out than any block
  private static final int RETURN = 1000;

  static final class Ended extends RuntimeException {
    private static final long serialVersionUID = 1;
    final int trap;

    /** 0: SPENT. */
    Ended(int trap) {
      super(null, null, false, false);
      this.trap = trap;
    }
  }

  private final SecondModule module;
  private final int most;
  private int nested = 0;
  int taken = 0;
  int trap = 0;
  long gave = 0;
  int answer;

  SecondRun(SecondModule module, int function, long[] arguments, int steps) {
    this.module = module;
    this.most = steps;
    SecondModule.Type type = module.typeOf(function);
    try {
      long given = call(function, Arrays.copyOf(arguments, type.takes.length));
      gave = type.gives == 0 ? 0 : given;
      answer = 0;
    } catch (Ended ended) {
      trap = ended.trap;
      answer = trap == 0 ? 1 : 2;
    }
  }

  private long call(int function, long[] arguments) {
    if (nested == 64) {
      throw new Ended(8);
    }
    nested++;
    long given = new Frame(function, arguments).given();
    nested--;
    return given;
  }

  /** One CALL; an i32 is kept with its sign. */
  private final class Frame {
    private final SecondModule.Type type;
    private final SecondModule.Code code;
    private final long[] locals;
    private final ArrayDeque<Long> row = new ArrayDeque<>();

    Frame(int function, long[] arguments) {
      type = module.typeOf(function);
      code = module.codes.get(function);
      locals = Arrays.copyOf(arguments, arguments.length + code.locals.size());
      for (int k = 0; k < type.takes.length; k++) {
        locals[k] = type.takes[k] == SecondModule.I32 ? (int) locals[k] : locals[k];
      }
    }

    long given() {
      all(code.body);
      return type.gives == 0 ? 0 : row.pop();
    }

    private void push(long value) {
      row.push(value);
    }

    private long pop() {
      return row.pop();
    }

    private int whole() {
      return (int) pop();
    }

    /** How many blocks are left from here, or GO_ON. */
    private int all(List<SecondModule.Instruction> instructions) {
      for (SecondModule.Instruction one : instructions) {
        int out = step(one);
        if (out != GO_ON) {
          return out;
        }
      }
      return GO_ON;
    }

    private int step(SecondModule.Instruction one) {
      if (taken == most) {
        throw new Ended(0);
      }
      taken++;
      if (one.op <= 4) {
        return structure(one);
      }
      if (one.op <= 15) {
        return leaving(one);
      }
      if (one.op <= 17) {
        callOf(one);
      } else if (one.op <= 36) {
        variable(one);
      } else if (one.op <= 62) {
        access(one);
      } else if (one.op <= 64) {
        pages(one.op);
      } else if (one.op <= 66) {
        push(one.number);
      } else {
        number(one.op);
      }
      return GO_ON;
    }

    private int structure(SecondModule.Instruction one) {
      if (one.op == 0) {
        throw new Ended(1);
      }
      if (one.op == 1) {
        return GO_ON;
      }
      boolean first = one.op != 4 || whole() != 0;
      List<SecondModule.Instruction> part = first ? one.first : one.other;
      if (part == null) {
        return GO_ON;
      }
      int floor = row.size();
      int out = all(part);
      while (out == 0 && one.op == 3) {
        keep(0, floor);
        out = all(part);
      }
      if (out > 0) {
        return out - 1;
      }
      keep(one.gives, floor);
      return GO_ON;
    }

    /** What the block gives comes down to where its row began. */
    private void keep(int gives, int floor) {
      long value = gives == 0 ? 0 : pop();
      while (row.size() > floor) {
        pop();
      }
      if (gives != 0) {
        push(value);
      }
    }

    private int leaving(SecondModule.Instruction one) {
      switch (one.op) {
        case 12:
          return (int) one.number;
        case 13:
          return whole() != 0 ? (int) one.number : GO_ON;
        case 14:
          long chosen = Math.min(whole() & LOW, one.labels.length - 1);
          return (int) one.labels[(int) chosen];
        default:
          return RETURN;
      }
    }

    private void callOf(SecondModule.Instruction one) {
      int function = one.op == 16 ? (int) one.number : placed(whole() & LOW, one.number);
      SecondModule.Type called = module.typeOf(function);
      long[] arguments = new long[called.takes.length];
      for (int k = arguments.length - 1; k >= 0; k--) {
        arguments[k] = pop();
      }
      long given = call(function, arguments);
      if (called.gives != 0) {
        push(given);
      }
    }

    private int placed(long place, long number) {
      if (place >= module.places.length) {
        throw new Ended(5);
      }
      int function = module.places[(int) place];
      if (function < 0) {
        throw new Ended(6);
      }
      SecondModule.Type told = module.types.get((int) number);
      SecondModule.Type is = module.typeOf(function);
      if (told.gives != is.gives || !Arrays.equals(told.takes, is.takes)) {
        throw new Ended(7);
      }
      return function;
    }

    private void variable(SecondModule.Instruction one) {
      int number = (int) one.number;
      switch (one.op) {
        case 26 -> pop();
        case 27 -> {
          boolean first = whole() != 0;
          long other = pop();
          long value = pop();
          push(first ? value : other);
        }
        case 32 -> push(locals[number]);
        case 33 -> locals[number] = pop();
        case 34 -> locals[number] = row.peek();
        case 35 -> push(module.worths[number]);
        default -> module.worths[number] = pop();
      }
    }

    private void pages(int op) {
      long was = module.bytes.length / 65536;
      if (op == 64) {
        long due = was + (whole() & LOW);
        Long most = module.memories.get(0).most;
        if (due > 2 || most != null && due > most) {
          push(-1);
          return;
        }
        module.bytes = Arrays.copyOf(module.bytes, (int) due * 65536);
      }
      push(was);
    }

    private void access(SecondModule.Instruction one) {
      int width = SecondModule.width(one.op);
      long value = one.op >= 54 ? pop() : 0;
      long from = (whole() & LOW) + one.number;
      if (from + width > module.bytes.length) {
        throw new Ended(4);
      }
      for (int k = 0; k < width; k++) {
        int at = (int) from + k;
        if (one.op >= 54) {
          module.bytes[at] = (byte) (value >>> 8 * k);
        } else {
          value |= (module.bytes[at] & 255L) << 8 * k;
        }
      }
      if (one.op < 54) {
        push(loaded(one.op, value));
      }
    }

    private long loaded(int op, long value) {
      return switch (op) {
        case 44, 48 -> (byte) value;
        case 46, 50 -> (short) value;
        case 40, 52 -> (int) value;
        default -> value;
      };
    }

    private void number(int op) {
      if (op >= 167) {
        long value = pop();
        push(op == 173 ? value & LOW : (int) value);
        return;
      }
      boolean alone = op == 69 || op == 80 || op >= 103 && op <= 105 || op >= 121 && op <= 123;
      long right = alone ? 0 : pop();
      long left = pop();
      boolean small = op <= 79 || op >= 103 && op <= 120;
      push(small ? SecondNumbers.whole(op, (int) left, (int) right) : SecondNumbers.longer(op, left, right));
    }
  }
}
