import java.io.ByteArrayOutputStream;

/** Makes up MODULES from a Dice: most are VALID, some have something ill in them, or bytes that were changed. */
final class ModuleMaker {
  private static final int I32 = SecondModule.I32;
  private static final int I64 = SecondModule.I64;

  final Dice dice;
  // how often of a thousand something is not as it should be
  final int ill;
  final int[][] takes;
  final int[] gives;
  final int[] typeNumbers;
  final int[] globalTypes;
  final boolean[] maySet;
  final boolean hasTable;
  final boolean hasMemory;

  private ModuleMaker(Dice dice) {
    this.dice = dice;
    ill = dice.of(0, 0, 0, 0, 5, 30);
    takes = new int[1 + dice.below(4)][];
    gives = new int[takes.length];
    for (int k = 0; k < takes.length; k++) {
      takes[k] = new int[dice.often(40) ? dice.below(12) : dice.below(4)];
      for (int j = 0; j < takes[k].length; j++) {
        takes[k][j] = valueType();
      }
      gives[k] = dice.often(200) ? 0 : valueType();
      if (k > 0 && dice.often(200)) {
        takes[k] = takes[0];
        gives[k] = gives[0];
      }
    }
    typeNumbers = new int[dice.often(10) ? 59 + dice.below(3) : dice.below(5)];
    for (int k = 0; k < typeNumbers.length; k++) {
      typeNumbers[k] = dice.below(takes.length);
    }
    globalTypes = new int[dice.below(4)];
    maySet = new boolean[globalTypes.length];
    for (int k = 0; k < globalTypes.length; k++) {
      globalTypes[k] = valueType();
      maySet[k] = dice.often(700);
    }
    hasTable = dice.often(600);
    hasMemory = dice.often(700);
  }

  static byte[] make(Dice dice) {
    ModuleMaker maker = new ModuleMaker(dice);
    byte[] made = maker.module();
    return dice.often(350) ? maker.changed(made) : made;
  }

  int valueType() {
    return dice.often(600) ? I32 : I64;
  }

  /** A number below a bound, or, where something is to be ill, perhaps one beyond it. */
  int near(int bound) {
    return dice.below(Math.max(1, bound + (dice.often(ill) ? 2 : 0)));
  }

  private byte[] module() {
    return Due.join(Due.header(), between(), section(1, types()), section(3, functions()), between(),
        section(4, tables()), section(5, memories()), between(), section(6, globals()), section(7, exports()),
        section(9, elements()), between(), section(10, codes()), between());
  }

  /** A SECTION 0, now and then. */
  private byte[] between() {
    if (!dice.often(50)) {
      return new byte[0];
    }
    byte[] name = new byte[dice.below(4)];
    byte[] behind = new byte[dice.below(4)];
    return Due.section(0, Due.join(Due.unsigned(name.length), name, behind));
  }

  /** Things make a SECTION; without any it stands there or not. */
  private byte[] section(int id, byte[][] things) {
    return things.length > 0 || dice.often(300) ? Due.section(id, Due.vec(things)) : new byte[0];
  }

  private byte[][] types() {
    byte[][] all = new byte[takes.length][];
    for (int k = 0; k < all.length; k++) {
      all[k] = Due.type(gives[k], takes[k]);
    }
    return all;
  }

  private byte[][] functions() {
    byte[][] all = new byte[typeNumbers.length][];
    for (int k = 0; k < all.length; k++) {
      all[k] = Due.unsigned(dice.often(ill) ? dice.below(6) : typeNumbers[k]);
    }
    return all;
  }

  private byte[][] tables() {
    byte[][] all = new byte[(hasTable ? 1 : 0) + (dice.often(ill) ? 1 : 0)][];
    for (int k = 0; k < all.length; k++) {
      byte[] limits = dice.often(800) ? Due.bytes(0, 10) : limits(100);
      all[k] = Due.join(Due.bytes(112), limits);
    }
    return all;
  }

  private byte[][] memories() {
    byte[][] all = new byte[(hasMemory ? 1 : 0) + (dice.often(ill) ? 1 : 0)][];
    for (int k = 0; k < all.length; k++) {
      all[k] = dice.often(500) ? Due.bytes(0, 1) : limits(2);
    }
    return all;
  }

  private byte[] limits(int bound) {
    int least = near(bound + 1);
    int most = least + near(bound + 1 - Math.min(bound, least)) - (dice.often(ill) ? 1 : 0);
    return dice.often(500) ? Due.join(Due.bytes(0), Due.unsigned(least))
        : Due.join(Due.bytes(1), Due.unsigned(least), Due.unsigned(Math.max(0, most)));
  }

  private byte[][] globals() {
    byte[][] all = new byte[globalTypes.length][];
    for (int k = 0; k < all.length; k++) {
      byte[] type = Due.bytes(globalTypes[k], maySet[k] ? 1 : 0);
      int due = globalTypes[k] == I32 ? 65 : 66;
      all[k] = Due.join(type, constant(dice.often(ill) ? dice.of(35, 65, 66) : due));
    }
    return all;
  }

  private byte[] constant(int op) {
    byte[] value = op == 35 ? Due.bytes(0) : Due.signed(op == 65 ? dice.whole() : dice.longer());
    return Due.join(Due.bytes(op), value, Due.bytes(11));
  }

  /** All FUNCTIONS first, as far as there is room, then something of any kind. */
  private byte[][] exports() {
    int[] there = {typeNumbers.length, hasTable ? 1 : 0, hasMemory ? 1 : 0, globalTypes.length};
    int functions = Math.min(8, typeNumbers.length);
    byte[][] all = new byte[functions + dice.below(5)][];
    for (int k = 0; k < all.length; k++) {
      int kind = k < functions ? 0 : dice.below(4);
      kind = there[kind] == 0 && !dice.often(ill) ? 0 : kind;
      int number = k < functions ? k : near(there[kind]);
      String name = dice.often(ill) ? "a" : dice.of("", "f", "\u0000\u00ff", "name") + k;
      all[k] = Due.export(name, kind, number);
    }
    return typeNumbers.length == 0 && !dice.often(ill) ? new byte[0][] : all;
  }

  private byte[][] elements() {
    boolean may = hasTable && typeNumbers.length > 0 || dice.often(ill);
    byte[][] all = new byte[may ? dice.below(3) : 0][];
    for (int k = 0; k < all.length; k++) {
      byte[][] numbers = new byte[dice.below(4)][];
      for (int j = 0; j < numbers.length; j++) {
        numbers[j] = Due.unsigned(near(typeNumbers.length));
      }
      byte[] place = Due.join(Due.bytes(65), Due.signed(dice.often(100) ? dice.whole() : dice.below(8)), Due.bytes(11));
      all[k] = Due.join(Due.bytes(0), dice.often(ill) ? constant(dice.of(35, 66)) : place, Due.vec(numbers));
    }
    return all;
  }

  private byte[][] codes() {
    byte[][] all = new byte[typeNumbers.length][];
    for (int k = 0; k < all.length; k++) {
      byte[] code = new CodeMaker(this, typeNumbers[k]).make(all.length > 8 ? 3 : 40 + dice.below(100));
      all[k] = Due.join(Due.unsigned(code.length), code);
    }
    return all;
  }

  /** Some bytes are left out, put in or changed. */
  private byte[] changed(byte[] whole) {
    int at = dice.below(dice.often(300) ? Math.min(60, whole.length) : whole.length);
    int what = dice.below(5);
    ByteArrayOutputStream some = new ByteArrayOutputStream();
    some.write(whole, 0, at);
    switch (what) {
      case 0 -> some.write(dice.below(256));
      case 1 -> {
        some.write(dice.below(256));
        some.write(whole[at]);
      }
      case 2 -> some.write(whole[at] + dice.of(-1, 1));
      case 3 -> {
      }
      default -> {
        return some.toByteArray();
      }
    }
    some.write(whole, at + 1, whole.length - at - 1);
    return some.toByteArray();
  }
}
