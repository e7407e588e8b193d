import java.math.BigInteger;
import java.util.ArrayList;
import java.util.Arrays;
import java.util.HashSet;
import java.util.List;
import java.util.Set;

/** A second reading of the document: READING of a MODULE into a tree, whether it is VALID, and what is MADE of it. */
final class SecondModule {
  static final int MALFORMED = -1;
  static final int REFUSED = -2;
  static final int INVALID = -3;
  static final int NOT_MADE = -4;
  static final int I32 = 127;
  static final int I64 = 126;

  /** Ends READING where it is thrown. */
  static final class Fault extends RuntimeException {
    private static final long serialVersionUID = 1;
    final int kind;
    final int at;

    Fault(int kind, int at) {
      super(null, null, false, false);
      this.kind = kind;
      this.at = at;
    }
  }

  static final class Type {
    int[] takes;
    int gives;
  }

  static final class Limits {
    long least;
    Long most;
  }

  static final class Constant {
    int op;
    long value;
  }

  static final class Global {
    int type;
    boolean maySet;
    Constant told;
  }

  static final class Export {
    byte[] name;
    int kind;
    long number;
  }

  static final class Element {
    Constant offset;
    long[] functions;
  }

  static final class Instruction {
    int op;
    long number;
    long align;
    long[] labels;
    int gives;
    List<Instruction> first;
    List<Instruction> other;
  }

  static final class Code {
    final List<Integer> locals = new ArrayList<>();
    final List<Instruction> body = new ArrayList<>();
  }

  final List<Type> types = new ArrayList<>();
  final List<Long> typeNumbers = new ArrayList<>();
  final List<Limits> tables = new ArrayList<>();
  final List<Limits> memories = new ArrayList<>();
  final List<Global> globals = new ArrayList<>();
  final List<Export> exports = new ArrayList<>();
  final List<Element> elements = new ArrayList<>();
  final List<Code> codes = new ArrayList<>();
  // as MADE
  long[] worths = new long[0];
  byte[] bytes = new byte[0];
  int[] places = new int[0];

  private final byte[] text;
  private int at = 0;
  private int end;
  private int place = -1;

  SecondModule(byte[] text) {
    this.text = text;
    this.end = text.length;
  }

  /** What module() answers, MADE where it is 1. */
  int answer() {
    try {
      read();
    } catch (Fault fault) {
      place = fault.at;
      return fault.kind;
    }
    int verdict = verdict();
    if (verdict != 0) {
      return verdict;
    }
    return make() ? 1 : NOT_MADE;
  }

  int place() {
    return place;
  }

  Type typeOf(int function) {
    return types.get(typeNumbers.get(function).intValue());
  }

  // READING

  private static Fault malformed(int where) {
    return new Fault(MALFORMED, where);
  }

  private static Fault refused(int where) {
    return new Fault(REFUSED, where);
  }

  private int next() {
    if (at >= end) {
      throw malformed(end);
    }
    return text[at++] & 255;
  }

  private void must(int due) {
    int where = at;
    if (next() != due) {
      throw malformed(where);
    }
  }

  /** Any row of bytes is taken as a number first; then the number must be one of the width. */
  private long leb(int width, boolean signed) {
    int where = at;
    int most = (width + 6) / 7;
    BigInteger value = BigInteger.ZERO;
    int n = 0;
    int b = 128;
    while (b >= 128) {
      if (at >= end || n == most) {
        throw malformed(where);
      }
      b = text[at++] & 255;
      value = value.or(BigInteger.valueOf(b & 127).shiftLeft(7 * n));
      n++;
    }
    if (signed && (b & 64) != 0) {
      value = value.subtract(BigInteger.ONE.shiftLeft(7 * n));
    }
    if (signed ? value.bitLength() >= width : value.bitLength() > width) {
      throw malformed(where);
    }
    return value.longValueExact();
  }

  private long u32() {
    return leb(32, false);
  }

  private int vec() {
    int where = at;
    long n = u32();
    if (n > 60) {
      throw refused(where);
    }
    return (int) n;
  }

  private int valueType() {
    int where = at;
    int type = next();
    if (type == 124 || type == 125) {
      throw refused(where);
    }
    if (type != I32 && type != I64) {
      throw malformed(where);
    }
    return type;
  }

  private int upTo(int most) {
    int where = at;
    int told = next();
    if (told > most) {
      throw malformed(where);
    }
    return told;
  }

  private byte[] name() {
    long n = u32();
    if (n > end - at) {
      throw malformed(end);
    }
    at += (int) n;
    return Arrays.copyOfRange(text, at - (int) n, at);
  }

  private static boolean isRefused(int op) {
    int[] from = {42, 56, 67, 91, 139, 168, 174};
    int[] to = {43, 57, 68, 102, 166, 171, 191};
    for (int k = 0; k < from.length; k++) {
      if (op >= from[k] && op <= to[k]) {
        return true;
      }
    }
    return false;
  }

  private Constant constant() {
    Constant told = new Constant();
    int where = at;
    told.op = next();
    if (isRefused(told.op)) {
      throw refused(where);
    }
    switch (told.op) {
      case 35 -> told.value = u32();
      case 65 -> told.value = leb(32, true);
      case 66 -> told.value = leb(64, true);
      default -> throw malformed(where);
    }
    must(11);
    return told;
  }

  private void read() {
    for (int due : new int[] {0, 97, 115, 109, 1, 0, 0, 0}) {
      must(due);
    }
    int latest = 0;
    while (at < text.length) {
      int where = at;
      int id = next();
      if (id == 2 || id == 8 || id == 11) {
        throw refused(where);
      }
      if (id > 11 || id != 0 && id <= latest) {
        throw malformed(where);
      }
      latest = Math.max(latest, id);
      end = sizedEnd();
      section(id);
      end = text.length;
    }
    if (typeNumbers.size() != codes.size()) {
      throw malformed(text.length);
    }
  }

  private int sizedEnd() {
    int where = at;
    long size = u32();
    if (size > end - at) {
      throw malformed(where);
    }
    return at + (int) size;
  }

  private void section(int id) {
    if (id == 0) {
      name();
      at = end;
      return;
    }
    int n = vec();
    for (int k = 0; k < n; k++) {
      thing(id);
    }
    noMore();
  }

  private void noMore() {
    if (at < end) {
      throw malformed(at);
    }
  }

  private void thing(int id) {
    switch (id) {
      case 1 -> types.add(type());
      case 3 -> typeNumbers.add(u32());
      case 4 -> {
        must(112);
        tables.add(limits());
      }
      case 5 -> memories.add(limits());
      case 6 -> globals.add(oneGlobal());
      case 7 -> exports.add(export());
      case 9 -> elements.add(element());
      default -> codes.add(code());
    }
  }

  private Type type() {
    must(96);
    Type type = new Type();
    type.takes = new int[vec()];
    for (int k = 0; k < type.takes.length; k++) {
      type.takes[k] = valueType();
    }
    int where = at;
    int n = vec();
    if (n > 1) {
      throw malformed(where);
    }
    type.gives = n == 1 ? valueType() : 0;
    return type;
  }

  private Limits limits() {
    Limits limits = new Limits();
    boolean both = upTo(1) == 1;
    limits.least = u32();
    limits.most = both ? u32() : null;
    return limits;
  }

  private Global oneGlobal() {
    Global global = new Global();
    global.type = valueType();
    global.maySet = upTo(1) == 1;
    global.told = constant();
    return global;
  }

  private Export export() {
    Export export = new Export();
    export.name = name();
    export.kind = upTo(3);
    export.number = u32();
    return export;
  }

  private Element element() {
    int where = at;
    if (u32() != 0) {
      throw malformed(where);
    }
    Element element = new Element();
    element.offset = constant();
    element.functions = new long[vec()];
    for (int k = 0; k < element.functions.length; k++) {
      element.functions[k] = u32();
    }
    return element;
  }

  private Code code() {
    int outer = end;
    end = sizedEnd();
    Code code = new Code();
    int groups = vec();
    for (int k = 0; k < groups; k++) {
      int where = at;
      long n = u32();
      if (code.locals.size() + n > 50) {
        throw refused(where);
      }
      int type = valueType();
      for (int j = 0; j < n; j++) {
        code.locals.add(type);
      }
    }
    instructions(code.body, 0, false);
    noMore();
    end = outer;
    return code;
  }

  /** Up to an 11, or a 5 where one may stand: which of them it was. */
  private int instructions(List<Instruction> row, int open, boolean mayElse) {
    while (true) {
      int where = at;
      int op = next();
      if (op == 11 || op == 5 && mayElse) {
        return op;
      }
      if (isRefused(op)) {
        throw refused(where);
      }
      Instruction one = new Instruction();
      one.op = op;
      if (op >= 2 && op <= 4) {
        block(one, open + 1, where);
      } else {
        operands(one, where);
      }
      row.add(one);
    }
  }

  private void block(Instruction one, int open, int where) {
    if (open > 20) {
      throw refused(where);
    }
    if (at < end && text[at] == 64) {
      at++;
    } else {
      one.gives = valueType();
    }
    one.first = new ArrayList<>();
    if (instructions(one.first, open, one.op == 4) == 5) {
      one.other = new ArrayList<>();
      instructions(one.other, open, false);
    }
  }

  private void operands(Instruction one, int where) {
    int op = one.op;
    if (op == 12 || op == 13 || op == 16 || op >= 32 && op <= 36) {
      one.number = u32();
    } else if (op == 14) {
      one.labels = new long[vec() + 1];
      for (int k = 0; k < one.labels.length; k++) {
        one.labels[k] = u32();
      }
    } else if (op == 17) {
      one.number = u32();
      must(0);
    } else if (op == 63 || op == 64) {
      must(0);
    } else if (op == 65 || op == 66) {
      one.number = leb(op == 65 ? 32 : 64, true);
    } else if (op >= 40 && op <= 62) {
      one.align = u32();
      one.number = u32();
    } else if (!standsAlone(op)) {
      throw malformed(where);
    }
  }

  private static boolean standsAlone(int op) {
    return op == 0 || op == 1 || op == 15 || op == 26 || op == 27 || op >= 69 && op <= 138
        || op == 167 || op == 172 || op == 173;
  }

  // VALID

  private int verdict() {
    for (long number : typeNumbers) {
      if (number >= types.size()) {
        return INVALID;
      }
    }
    if (tables.size() > 1 || memories.size() > 1) {
      return INVALID;
    }
    int verdict = verdictOn(tables, 100);
    if (verdict == 0) {
      verdict = verdictOn(memories, 2);
    }
    if (verdict != 0) {
      return verdict;
    }
    if (!globalsFit() || !exportsFit() || !elementsFit()) {
      return INVALID;
    }
    for (int f = 0; f < codes.size(); f++) {
      if (!new SecondJudge(this, f).fits()) {
        return INVALID;
      }
    }
    return 0;
  }

  private static int verdictOn(List<Limits> all, int bound) {
    for (Limits limits : all) {
      if (limits.most != null && limits.most < limits.least) {
        return INVALID;
      }
      if (limits.least > bound || limits.most != null && limits.most > bound) {
        return REFUSED;
      }
    }
    return 0;
  }

  private boolean globalsFit() {
    for (Global global : globals) {
      if (global.told.op != (global.type == I32 ? 65 : 66)) {
        return false;
      }
    }
    return true;
  }

  private boolean exportsFit() {
    int[] there = {codes.size(), tables.size(), memories.size(), globals.size()};
    Set<String> names = new HashSet<>();
    for (Export export : exports) {
      if (!names.add(Arrays.toString(export.name)) || export.number >= there[export.kind]) {
        return false;
      }
    }
    return true;
  }

  private boolean elementsFit() {
    for (Element element : elements) {
      if (tables.isEmpty() || element.offset.op != 65) {
        return false;
      }
      for (long function : element.functions) {
        if (function >= codes.size()) {
          return false;
        }
      }
    }
    return true;
  }

  // MADE

  private boolean make() {
    places = new int[tables.isEmpty() ? 0 : (int) tables.get(0).least];
    Arrays.fill(places, -1);
    for (Element element : elements) {
      if ((element.offset.value & 0xFFFFFFFFL) + element.functions.length > places.length) {
        return false;
      }
    }
    for (Element element : elements) {
      for (int k = 0; k < element.functions.length; k++) {
        places[(int) element.offset.value + k] = (int) element.functions[k];
      }
    }
    worths = new long[globals.size()];
    for (int k = 0; k < worths.length; k++) {
      worths[k] = globals.get(k).told.value;
    }
    bytes = new byte[memories.isEmpty() ? 0 : (int) memories.get(0).least * 65536];
    return true;
  }

  /** How many bytes a load or store takes or puts. */
  static int width(int op) {
    return switch (op) {
      case 44, 45, 48, 49, 58, 60 -> 1;
      case 46, 47, 50, 51, 59, 61 -> 2;
      case 40, 52, 53, 54, 62 -> 4;
      default -> 8;
    };
  }

  /** The VALUE TYPE that a load gives or a store takes. */
  static int accessType(int op) {
    return switch (op) {
      case 40, 44, 45, 46, 47, 54, 58, 59 -> I32;
      default -> I64;
    };
  }
}
