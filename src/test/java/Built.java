import java.util.ArrayList;
import java.util.List;

/** A MODULE in the making: parts are added in any order, {@link #bytes} writes them out. */
final class Built {
  private final List<byte[]> types = new ArrayList<>();
  private final List<byte[]> functions = new ArrayList<>();
  private final List<byte[]> tables = new ArrayList<>();
  private final List<byte[]> memories = new ArrayList<>();
  private final List<byte[]> globals = new ArrayList<>();
  private final List<byte[]> exports = new ArrayList<>();
  private final List<byte[]> elements = new ArrayList<>();
  private final List<byte[]> codes = new ArrayList<>();

  /** A TYPE: what it gives (0: nothing), what it takes. */
  Built type(int gives, int... takes) {
    types.add(Due.type(gives, takes));
    return this;
  }

  /** A FUNCTION of a TYPE, without LOCALS. */
  Built function(int type, int... instructions) {
    return function(type, Due.bytes(0), Due.bytes(instructions));
  }

  /** A FUNCTION of a TYPE, with a VEC of LOCALS, and its INSTRUCTIONS but for the closing 11. */
  Built function(int type, byte[] locals, byte[] instructions) {
    functions.add(Due.unsigned(type & 0xFFFFFFFFL));
    codes.add(Due.code(locals, instructions));
    return this;
  }

  Built table(long least) {
    tables.add(Due.join(Due.bytes(112, 0), Due.unsigned(least)));
    return this;
  }

  Built table(long least, long most) {
    tables.add(Due.join(Due.bytes(112, 1), Due.unsigned(least), Due.unsigned(most)));
    return this;
  }

  Built memory(long least) {
    memories.add(Due.join(Due.bytes(0), Due.unsigned(least)));
    return this;
  }

  Built memory(long least, long most) {
    memories.add(Due.join(Due.bytes(1), Due.unsigned(least), Due.unsigned(most)));
    return this;
  }

  /** A GLOBAL, told by the INSTRUCTION 65 or 66. */
  Built global(int type, int mayBeSet, int instruction, long value) {
    globals.add(Due.join(Due.bytes(type, mayBeSet, instruction), Due.signed(value), Due.bytes(11)));
    return this;
  }

  Built export(String name, int kind, int number) {
    exports.add(Due.export(name, kind, number));
    return this;
  }

  /** An ELEMENT, whose offset is told by the INSTRUCTION 65 or 66. */
  Built element(int instruction, long offset, int... numbers) {
    byte[] vec = Due.unsigned(numbers.length);
    for (int number : numbers) {
      vec = Due.join(vec, Due.unsigned(number & 0xFFFFFFFFL));
    }
    elements.add(Due.join(Due.bytes(0, instruction), Due.signed(offset), Due.bytes(11), vec));
    return this;
  }

  byte[] bytes() {
    return Due.join(Due.header(), section(1, types), section(3, functions), section(4, tables),
        section(5, memories), section(6, globals), section(7, exports), section(9, elements),
        section(10, codes));
  }

  private static byte[] section(int id, List<byte[]> things) {
    return things.isEmpty() ? new byte[0] : Due.section(id, Due.vec(things.toArray(new byte[0][])));
  }
}
