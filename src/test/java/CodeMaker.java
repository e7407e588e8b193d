import java.io.ByteArrayOutputStream;
import java.util.ArrayList;
import java.util.List;

/** Makes up a FUNCTION's CODE for a ModuleMaker: INSTRUCTIONS that leave one value of a VALUE TYPE, or none. */
final class CodeMaker {
  private static final int I32 = SecondModule.I32;
  private static final int I64 = SecondModule.I64;
  private static final int NONE = 0;

  private final ModuleMaker module;
  private final Dice dice;
  private final int gives;
  private final List<Integer> locals = new ArrayList<>();
  // what a br to each of them needs, the innermost first
  private final List<Integer> labels = new ArrayList<>();
  private final ByteArrayOutputStream out = new ByteArrayOutputStream();
  private int left;

  CodeMaker(ModuleMaker module, int type) {
    this.module = module;
    this.dice = module.dice;
    this.gives = module.gives[type];
    for (int taken : module.takes[type]) {
      locals.add(taken);
    }
    labels.add(gives);
  }

  byte[] make(int room) {
    left = room;
    byte[][] groups = new byte[dice.below(3)][];
    for (int k = 0; k < groups.length; k++) {
      int many = dice.often(30) ? 20 + dice.below(32) : dice.below(4);
      int type = module.valueType();
      groups[k] = Due.join(Due.unsigned(many), Due.bytes(type));
      for (int j = 0; j < many; j++) {
        locals.add(type);
      }
    }
    int depth = dice.often(50) ? 24 : 1 + dice.below(6);
    some(depth);
    value(gives, depth);
    if (dice.often(50)) {
      leave(2);
      anything();
    }
    if (dice.often(module.ill)) {
      put(dice.below(256));
    }
    put(11);
    return Due.join(Due.vec(groups), out.toByteArray());
  }

  private void put(int... bytes) {
    for (int b : bytes) {
      out.write(b);
    }
  }

  private void put(byte[] bytes) {
    out.write(bytes, 0, bytes.length);
  }

  /** An INSTRUCTION with a number of its own. */
  private void put(int op, long number) {
    put(op);
    put(Due.unsigned(number));
  }

  private void some(int depth) {
    int many = dice.below(3);
    for (int k = 0; k < many; k++) {
      value(NONE, depth);
    }
  }

  /** INSTRUCTIONS that take nothing and leave one value of a type, or none. */
  private void value(int due, int depth) {
    int type = dice.often(module.ill) ? dice.of(NONE, I32, I64) : due;
    left--;
    if (depth <= 0 || left < 0) {
      plain(type);
      return;
    }
    if (type != NONE && dice.often(500)) {
      number(type, depth - 1);
      return;
    }
    switch (dice.below(type == NONE ? 11 : 9)) {
      case 0 -> block(2, type, depth - 1);
      case 1 -> block(3, type, depth - 1);
      case 2 -> block(4, type, depth - 1);
      case 3, 4 -> call(type, depth - 1);
      case 5 -> branchIf(type, depth - 1);
      case 6 -> outOfMemory(type, depth - 1);
      case 7 -> local(type, depth - 1);
      case 8 -> {
        if (dice.often(100)) {
          leave(depth - 1);
          anything();
        } else {
          value(type, depth - 1);
          some(depth - 1);
        }
      }
      case 9 -> intoMemory(depth - 1);
      default -> intoGlobal(depth - 1);
    }
  }

  private void plain(int type) {
    if (type == NONE) {
      put(1);
      return;
    }
    int local = fitting(locals, type);
    if (local >= 0 && dice.often(300)) {
      put(32, local);
      return;
    }
    int global = dice.below(module.globalTypes.length + 1);
    if (global < module.globalTypes.length && module.globalTypes[global] == type) {
      put(35, global);
      return;
    }
    put(type == I32 ? 65 : 66);
    put(Due.signed(type == I32 ? dice.whole() : dice.longer()));
  }

  /** The number of one that fits, or, where something is to be ill, any number; -1: there is none. */
  private int fitting(List<Integer> all, int type) {
    if (dice.often(module.ill)) {
      return dice.below(6);
    }
    List<Integer> fit = new ArrayList<>();
    for (int k = 0; k < all.size(); k++) {
      if (all.get(k) == type) {
        fit.add(k);
      }
    }
    return fit.isEmpty() ? -1 : fit.get(dice.below(fit.size()));
  }

  private void number(int type, int depth) {
    boolean small = type == I32;
    switch (dice.below(6)) {
      case 0 -> {
        value(small ? I64 : I32, depth);
        put(small ? dice.of(80, 167) : dice.of(172, 173));
      }
      case 1 -> {
        value(type, depth);
        put(small ? dice.of(69, 103, 104, 105) : 121 + dice.below(3));
      }
      case 2 -> {
        int taken = small ? module.valueType() : I64;
        value(taken, depth);
        value(taken, depth);
        put(small ? (taken == I32 ? 70 : 81) + dice.below(10) : 124 + dice.below(15));
      }
      case 3 -> {
        value(type, depth);
        value(type, depth);
        value(I32, depth);
        put(27);
      }
      default -> {
        value(type, depth);
        value(type, depth);
        put((small ? 106 : 124) + dice.below(15));
      }
    }
  }

  private void block(int op, int type, int depth) {
    if (op == 4) {
      value(I32, depth);
    }
    put(op, type == NONE ? 64 : type);
    labels.add(0, op == 3 ? NONE : type);
    some(depth);
    value(type, depth);
    if (op == 4 && (type != NONE && !dice.often(module.ill) || dice.often(500))) {
      put(5);
      some(depth);
      value(type, depth);
    }
    put(11);
    labels.remove(0);
  }

  private void call(int type, int depth) {
    boolean placed = module.hasTable && dice.often(400);
    int many = placed ? module.takes.length : module.typeNumbers.length;
    int number = dice.below(Math.max(1, many));
    int called = number >= many ? -1 : placed ? number : module.typeNumbers[number];
    if (called < 0 || module.gives[called] != type || module.takes[called].length > 4) {
      value(type, depth);
      return;
    }
    for (int taken : module.takes[called]) {
      value(taken, depth);
    }
    if (placed) {
      put(65, dice.below(12));
      put(17, number);
      put(0);
    } else {
      put(16, dice.often(module.ill) ? dice.below(6) : number);
    }
  }

  private void branchIf(int type, int depth) {
    int label = fitting(labels, type);
    value(type, depth);
    if (label >= 0) {
      value(I32, depth);
      put(13, label);
    }
  }

  private void local(int type, int depth) {
    int due = type == NONE ? module.valueType() : type;
    int local = fitting(locals, due);
    value(due, depth);
    if (local >= 0) {
      put(type == NONE ? 33 : 34, local);
    } else if (type == NONE) {
      put(26);
    }
  }

  private void address(int depth) {
    if (dice.often(300)) {
      value(I32, depth);
      return;
    }
    put(65);
    put(Due.signed(dice.often(200) ? 65530 + dice.below(12) : dice.often(200) ? 131064 + dice.below(10) : dice.below(64)));
  }

  private void access(int op) {
    int width = SecondModule.width(op);
    int most = width == 8 ? 3 : width / 2;
    long far = dice.often(500) ? 65528 + dice.below(10) : 0xFFFFFFFFL - dice.below(20);
    put(op, dice.below(most + 1) + (dice.often(module.ill) ? 1 : 0));
    put(Due.unsigned(dice.often(800) ? dice.below(16) : far));
  }

  private boolean withoutMemory() {
    return !module.hasMemory && !dice.often(module.ill);
  }

  private void outOfMemory(int type, int depth) {
    if (type == NONE || withoutMemory()) {
      value(type, depth);
    } else if (type == I32 && dice.often(300)) {
      if (dice.often(500)) {
        put(63, 0);
      } else {
        value(I32, depth);
        put(64, 0);
      }
    } else {
      address(depth);
      access(type == I32 ? dice.of(40, 44, 45, 46, 47) : dice.of(41, 48, 49, 50, 51, 52, 53));
    }
  }

  private void intoMemory(int depth) {
    int type = module.valueType();
    if (withoutMemory()) {
      value(type, depth);
      put(26);
      return;
    }
    address(depth);
    value(type, depth);
    access(type == I32 ? dice.of(54, 58, 59) : dice.of(55, 60, 61, 62));
  }

  private void intoGlobal(int depth) {
    int global = dice.below(module.globalTypes.length + 1);
    boolean there = global < module.globalTypes.length && (module.maySet[global] || dice.often(module.ill));
    value(there ? module.globalTypes[global] : I64, depth);
    if (there) {
      put(36, global);
    } else {
      put(26);
    }
  }

  /** What behind it anything may stand. */
  private void leave(int depth) {
    int label = dice.below(labels.size());
    int needs = labels.get(label);
    switch (dice.below(4)) {
      case 0 -> put(0);
      case 1 -> {
        value(needs, depth);
        put(12, label);
      }
      case 2 -> {
        value(needs, depth);
        value(I32, depth);
        int many = dice.below(4);
        put(14, many);
        for (int k = 0; k <= many; k++) {
          put(Due.unsigned(Math.max(0, fitting(labels, needs))));
        }
      }
      default -> {
        value(gives, depth);
        put(15);
      }
    }
  }

  /** INSTRUCTIONS that take what nothing has put. */
  private void anything() {
    int many = dice.below(4);
    for (int k = 0; k < many; k++) {
      int op = dice.of(106, 26, 27, 124, 69, 80, 65);
      put(op);
      put(op == 65 ? Due.bytes(1) : new byte[0]);
    }
  }
}
