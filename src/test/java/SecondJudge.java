import java.util.ArrayList;
import java.util.List;

/** A second reading of the document: whether a FUNCTION's CODE is VALID. */
final class SecondJudge {
  private static final int I32 = SecondModule.I32;
  private static final int I64 = SecondModule.I64;
  private static final int UNKNOWN = 0;

  private static final class Unfit extends RuntimeException {
    private static final long serialVersionUID = 1;

    Unfit() {
      super(null, null, false, false);
    }
  }

  /** What stands open: what a br to it needs, where its own row begins, whether it is dead. */
  private static final class Open {
    int needs;
    int floor;
    boolean dead;
  }

  private final SecondModule module;
  private final SecondModule.Type type;
  private final SecondModule.Code code;
  private final List<Integer> locals = new ArrayList<>();
  private final List<Integer> row = new ArrayList<>();
  private final List<Open> open = new ArrayList<>();

  SecondJudge(SecondModule module, int function) {
    this.module = module;
    this.type = module.typeOf(function);
    this.code = module.codes.get(function);
    for (int taken : type.takes) {
      locals.add(taken);
    }
    locals.addAll(code.locals);
  }

  boolean fits() {
    try {
      part(code.body, type.gives, type.gives);
      return true;
    } catch (Unfit unfit) {
      return false;
    }
  }

  private static void must(boolean holds) {
    if (!holds) {
      throw new Unfit();
    }
  }

  private Open innermost() {
    return open.get(open.size() - 1);
  }

  private int popAny() {
    if (row.size() == innermost().floor) {
      must(innermost().dead);
      return UNKNOWN;
    }
    return row.remove(row.size() - 1);
  }

  private void pop(int due) {
    if (due != 0) {
      int is = popAny();
      must(is == UNKNOWN || due == UNKNOWN || is == due);
    }
  }

  private void push(int given) {
    if (given != 0) {
      row.add(given);
    }
  }

  private void goDead() {
    while (row.size() > innermost().floor) {
      row.remove(row.size() - 1);
    }
    innermost().dead = true;
  }

  /** INSTRUCTIONS that stand open on their own: at their end there is just what they give, which is taken then. */
  private void part(List<SecondModule.Instruction> all, int needs, int gives) {
    Open part = new Open();
    part.needs = needs;
    part.floor = row.size();
    open.add(part);
    for (SecondModule.Instruction one : all) {
      instruction(one);
    }
    pop(gives);
    must(row.size() == part.floor);
    open.remove(open.size() - 1);
  }

  private int needsOf(long label) {
    must(label < open.size());
    return open.get(open.size() - 1 - (int) label).needs;
  }

  private void instruction(SecondModule.Instruction one) {
    int op = one.op;
    if (op <= 4) {
      structure(one);
    } else if (op <= 17) {
      leaving(one);
    } else if (op <= 27) {
      dropOrSelect(op);
    } else if (op <= 36) {
      variable(one);
    } else if (op <= 64) {
      memory(one);
    } else if (op <= 66) {
      push(op == 65 ? I32 : I64);
    } else {
      number(op);
    }
  }

  private void structure(SecondModule.Instruction one) {
    if (one.op == 0) {
      goDead();
    }
    if (one.op < 2) {
      return;
    }
    if (one.op == 4) {
      pop(I32);
      must(one.other != null || one.gives == 0);
    }
    part(one.first, one.op == 3 ? 0 : one.gives, one.gives);
    if (one.other != null) {
      part(one.other, one.gives, one.gives);
    }
    push(one.gives);
  }

  private void leaving(SecondModule.Instruction one) {
    switch (one.op) {
      case 12 -> {
        pop(needsOf(one.number));
        goDead();
      }
      case 13 -> {
        pop(I32);
        pop(needsOf(one.number));
        push(needsOf(one.number));
      }
      case 14 -> {
        int needs = needsOf(one.labels[0]);
        for (long label : one.labels) {
          must(needsOf(label) == needs);
        }
        pop(I32);
        pop(needs);
        goDead();
      }
      case 15 -> {
        pop(type.gives);
        goDead();
      }
      case 16 -> {
        must(one.number < module.codes.size());
        call(module.typeOf((int) one.number));
      }
      default -> {
        must(!module.tables.isEmpty() && one.number < module.types.size());
        pop(I32);
        call(module.types.get((int) one.number));
      }
    }
  }

  private void call(SecondModule.Type called) {
    for (int k = called.takes.length - 1; k >= 0; k--) {
      pop(called.takes[k]);
    }
    push(called.gives);
  }

  private void dropOrSelect(int op) {
    if (op == 26) {
      popAny();
      return;
    }
    pop(I32);
    int one = popAny();
    int other = popAny();
    must(one == other || one == UNKNOWN || other == UNKNOWN);
    // what is not known stands in the row, too: it fits each type
    row.add(one == UNKNOWN ? other : one);
  }

  private void variable(SecondModule.Instruction one) {
    boolean global = one.op >= 35;
    must(one.number < (global ? module.globals.size() : locals.size()));
    int number = (int) one.number;
    int due = global ? module.globals.get(number).type : locals.get(number);
    must(one.op != 36 || module.globals.get(number).maySet);
    if (one.op == 33 || one.op == 34 || one.op == 36) {
      pop(due);
    }
    if (one.op == 32 || one.op == 34 || one.op == 35) {
      push(due);
    }
  }

  private void memory(SecondModule.Instruction one) {
    must(!module.memories.isEmpty());
    if (one.op >= 63) {
      pop(one.op == 64 ? I32 : 0);
      push(I32);
      return;
    }
    must(one.align <= 3 && 1 << one.align <= SecondModule.width(one.op));
    int due = SecondModule.accessType(one.op);
    pop(one.op >= 54 ? due : 0);
    pop(I32);
    push(one.op >= 54 ? 0 : due);
  }

  private void number(int op) {
    boolean small = op <= 79 || op >= 103 && op <= 120 || op >= 172;
    boolean one = op == 69 || op == 80 || op >= 103 && op <= 105 || op >= 121 && op <= 123 || op >= 167;
    boolean givesSmall = op <= 120 || op == 167;
    pop(small ? I32 : I64);
    pop(one ? 0 : small ? I32 : I64);
    push(givesSmall ? I32 : I64);
  }
}
