import java.util.Arrays;

/**
 * Reads, judges and runs modules of the WebAssembly 1.0 binary form (whole numbers alone), and
 * programs of a small strict language. What is due is told in DOC.md, promise by promise.
 */
public final class FoldForge {
  private static final int TAPE_ROOM = 4000;
  private static final int PIECE = 20;
  private static final int ARGUMENTS = 8;
  private static final int MOST_STEPS = 20000;
  private static final int MALFORMED = -1;
  private static final int REFUSED = -2;
  private static final int INVALID = -3;
  private static final int NOT_MADE = -4;
  private static final int NONE_SUCH = -9;
  private static final int I32 = 127;
  private static final int I64 = 126;
  private static final int VEC_MOST = 60;

  private final byte[] tape = new byte[TAPE_ROOM];
  private int fed = 0;
  private final long[] arguments = new long[ARGUMENTS];
  private ModuleRows kept = new ModuleRows();
  private ModuleRows draft = new ModuleRows();
  private boolean made = false;
  private int faultPlace = -1;
  private final ModuleReader reader = new ModuleReader();
  private final Judge judge = new Judge();
  private final Machine machine = new Machine();
  private Program keptProgram = new Program();
  private Program draftProgram = new Program();
  private final Parser parser = new Parser();
  private final Checker checker = new Checker();
  private final Runner runner = new Runner();
  private long result = 0;
  private int stepsTaken = 0;
  private int trapMet = 0;

  public FoldForge() {
  }

  public int feed(int a, int b, int c, int d, int e) {
    if (fed + PIECE > TAPE_ROOM) {
      return -1;
    }
    putOnTape(a);
    putOnTape(b);
    putOnTape(c);
    putOnTape(d);
    putOnTape(e);
    return fed;
  }

  private void putOnTape(int four) {
    for (int shift = 24; shift >= 0 && fed < TAPE_ROOM; shift -= 8) {
      tape[fed] = (byte) (four >>> shift);
      fed++;
    }
  }

  public int module(int n) {
    if (n < 0 || n > fed) {
      return 0;
    }
    fed = 0;
    reader.read(draft, tape, n);
    faultPlace = reader.scan.faultAt;
    if (reader.scan.fault != 0) {
      return reader.scan.fault;
    }
    int verdict = judge.verdictOn(draft);
    if (verdict != 0) {
      return verdict;
    }
    if (!machine.make(draft)) {
      return NOT_MADE;
    }
    ModuleRows old = kept;
    kept = draft;
    draft = old;
    made = true;
    return 1;
  }

  public int place() {
    return faultPlace;
  }

  public int count(int what) {
    if (!made) {
      return -1;
    }
    switch (what) {
      case 0:
        return kept.types;
      case 1:
        return kept.functions;
      case 2:
        return kept.tables > 0 ? machine.places : -1;
      case 3:
        return kept.memories > 0 ? machine.pages : -1;
      case 4:
        return kept.globals;
      case 5:
        return kept.exports;
      default:
        return -1;
    }
  }

  public int export(int i, int what) {
    if (!made || i < 0 || i >= kept.exports || what < -2) {
      return NONE_SUCH;
    }
    int kind = kept.kindOf(i);
    int number = kept.numberOf(i);
    if (what < 0) {
      return kind != 0 ? NONE_SUCH : shapeOf(number, what);
    }
    if (what == 0) {
      return kind;
    }
    if (what == 1) {
      return number;
    }
    int length = kept.exportRows[4 * i + 1];
    if (what == 2) {
      return length;
    }
    int at = kept.exportRows[4 * i] + what - 3;
    return what - 3 < length ? kept.text[at] & 255 : NONE_SUCH;
  }

  private int shapeOf(int function, int what) {
    int type = kept.functionTypes[function];
    return what == -1 ? kept.argumentsOf(type) : kept.givenBy(type);
  }

  public int argument(int k, long v) {
    if (k < 0 || k >= ARGUMENTS) {
      return 0;
    }
    arguments[k] = v;
    return 1;
  }

  public int run(int i, int steps) {
    if (!made || i < 0 || i >= kept.exports || kept.kindOf(i) != 0) {
      return -1;
    }
    int function = kept.numberOf(i);
    if (kept.argumentsOf(kept.functionTypes[function]) > ARGUMENTS) {
      return -1;
    }
    if (steps < 0 || steps > MOST_STEPS) {
      return -2;
    }
    int answer = machine.start(function, arguments, steps);
    result = machine.given;
    stepsTaken = machine.taken;
    trapMet = machine.trap;
    return answer;
  }

  public long outcome(int what) {
    switch (what) {
      case 0:
        return result;
      case 1:
        return stepsTaken;
      case 2:
        return trapMet;
      default:
        return 0;
    }
  }

  public long global(int i) {
    return made && i >= 0 && i < kept.globals ? machine.globals[i] : 0;
  }

  public int memory(int i) {
    if (!made || i < 0 || i >= machine.bytes()) {
      return -1;
    }
    return machine.byteAt(i);
  }

  public int table(int i) {
    if (!made || i < 0 || i >= machine.places) {
      return -2;
    }
    return machine.placed[i];
  }

  public int program(int n) {
    if (n < 1 || n > fed) {
      return 0;
    }
    fed = 0;
    int fault = parser.parse(draftProgram, tape, n);
    if (fault < 0) {
      fault = checker.faultOf(draftProgram);
    }
    if (fault >= 0) {
      return -1 - fault;
    }
    Program old = keptProgram;
    keptProgram = draftProgram;
    draftProgram = old;
    return keptProgram.functions;
  }

  public int call(int f) {
    if (!keptProgram.takesAndGivesInt(f)) {
      return -1;
    }
    runner.start(keptProgram, f, arguments);
    result = runner.given;
    stepsTaken = 0;
    trapMet = runner.error;
    return trapMet == 0 ? 0 : 2;
  }

  public int spent(int what) {
    switch (what) {
      case 0:
        return runner.conses;
      case 1:
        return runner.calls;
      case 2:
        return runner.deepest;
      default:
        return 0;
    }
  }

  /** Goes over bytes up to an end; the first fault that is met stays. */
  private static final class Scan {
    private byte[] text = new byte[0];
    private int at = 0;
    private int end = 0;
    private int fault = 0;
    private int faultAt = -1;

    private void begin(byte[] bytes, int length) {
      text = bytes;
      at = 0;
      end = Math.min(length, bytes.length);
      fault = 0;
      faultAt = -1;
    }

    private boolean fine() {
      return fault == 0;
    }

    private void fail(int what, int where) {
      if (fault == 0) {
        fault = what;
        faultAt = where;
      }
    }

    private int next() {
      if (at >= end) {
        fail(MALFORMED, end);
        return 0;
      }
      int value = text[at] & 255;
      at++;
      return value;
    }

    private void expect(int value) {
      if (at >= end || (text[at] & 255) != value) {
        fail(MALFORMED, Math.min(at, end));
        return;
      }
      at++;
    }

    private long unsigned() {
      int where = at;
      long value = 0;
      for (int k = 0; k < 5 && at < end; k++) {
        int b = text[at] & 255;
        at++;
        if (k == 4 && b >= 16) {
          break;
        }
        value |= (long) (b & 127) << (7 * k);
        if (b < 128) {
          return value;
        }
      }
      fail(MALFORMED, where);
      return 0;
    }

    private long signed(int width) {
      int where = at;
      int most = width == 32 ? 5 : 10;
      // in the last byte that may stand: the width's highest bit and those beyond it
      int like = width == 32 ? 120 : 127;
      long value = 0;
      for (int k = 0; k < most && at < end; k++) {
        int b = text[at] & 255;
        at++;
        if (k == most - 1 && (b & 128) == 0 && (b & like) != 0 && (b & like) != like) {
          break;
        }
        value |= (long) (b & 127) << (7 * k);
        if (b < 128) {
          boolean below = (b & 64) != 0 && 7 * k + 7 < 64;
          return below ? value | (-1L << (7 * k + 7)) : value;
        }
      }
      fail(MALFORMED, where);
      return 0;
    }

    /** How many things a VEC has; 0 behind a fault, so that nothing more is read. */
    private int vec() {
      int where = at;
      long n = unsigned();
      if (n > VEC_MOST) {
        fail(REFUSED, where);
      }
      return fault == 0 ? (int) n : 0;
    }

    private int valueType() {
      int where = at;
      int type = next();
      if (type == 124 || type == 125) {
        fail(REFUSED, where);
      } else if (type != I32 && type != I64) {
        fail(MALFORMED, where);
      }
      return type;
    }

    /** A size, and the end that it sets for what comes; the end that it was told within is given back later. */
    private void narrow() {
      int where = at;
      long size = unsigned();
      if (size > end - at) {
        fail(MALFORMED, where);
      } else if (fault == 0) {
        end = at + (int) size;
      }
    }

    private void widen(int outerEnd) {
      if (at < end) {
        fail(MALFORMED, at);
      }
      end = outerEnd;
    }
  }

  /** What a MODULE tells, row by row. */
  private static final class ModuleRows {
    private final byte[] text = new byte[TAPE_ROOM];
    private int types;
    // where its ARGUMENTS stand in the text, how many they are, what it gives
    private final int[] typeRows = new int[3 * VEC_MOST];
    private int functions;
    private final int[] functionTypes = new int[VEC_MOST];
    private int tables;
    private final long[] tableLimits = new long[2];
    private int memories;
    private final long[] memoryLimits = new long[2];
    private int globals;
    // its VALUE TYPE, whether it may be set, how its worth is told
    private final int[] globalRows = new int[3 * VEC_MOST];
    private final long[] globalValues = new long[VEC_MOST];
    private int exports;
    // where its name stands in the text, the name's bytes, its kind, its number
    private final int[] exportRows = new int[4 * VEC_MOST];
    private int elements;
    // how its offset is told, where its FUNCTIONS begin in the list of all, how many they are
    private final int[] elementRows = new int[3 * VEC_MOST];
    private final long[] elementOffsets = new long[VEC_MOST];
    private int listed;
    private final int[] elementFunctions = new int[TAPE_ROOM];
    private final CodeRows codes = new CodeRows();

    private void clear() {
      types = 0;
      functions = 0;
      tables = 0;
      memories = 0;
      globals = 0;
      exports = 0;
      elements = 0;
      listed = 0;
      codes.size = 0;
      codes.instructions = 0;
      codes.labels = 0;
    }

    private int kindOf(int export) {
      return exportRows[4 * export + 2];
    }

    private int numberOf(int export) {
      return exportRows[4 * export + 3];
    }

    private int argumentsOf(int type) {
      return typeRows[3 * type + 1];
    }

    private int argumentType(int type, int k) {
      return text[typeRows[3 * type] + k];
    }

    private int givenBy(int type) {
      return typeRows[3 * type + 2];
    }

    private boolean sameTypes(int one, int other) {
      int n = argumentsOf(one);
      if (n != argumentsOf(other) || givenBy(one) != givenBy(other)) {
        return false;
      }
      for (int k = 0; k < n; k++) {
        if (argumentType(one, k) != argumentType(other, k)) {
          return false;
        }
      }
      return true;
    }
  }

  /** INSTRUCTIONS of all CODES in one row; a label's three places are filled as it is judged. */
  private static final class CodeRows {
    private static final int LOCALS_MOST = 50;
    private int size;
    private final int[] starts = new int[VEC_MOST];
    private final int[] ends = new int[VEC_MOST];
    private final int[] locals = new int[VEC_MOST];
    private final byte[] localTypes = new byte[VEC_MOST * LOCALS_MOST];
    private int instructions;
    private final int[] op = new int[TAPE_ROOM];
    private final long[] first = new long[TAPE_ROOM];
    private final int[] second = new int[TAPE_ROOM];
    private int labels;
    private final int[] labelRows = new int[3 * TAPE_ROOM];

    private int add(int operator) {
      if (instructions >= TAPE_ROOM) {
        return TAPE_ROOM - 1;
      }
      op[instructions] = operator;
      first[instructions] = 0;
      second[instructions] = 0;
      instructions++;
      return instructions - 1;
    }

    private void addLabel(long depth) {
      if (labels < TAPE_ROOM) {
        labelRows[3 * labels] = (int) depth;
        labels++;
      }
    }

    /** Where the 11 of a block, loop, if stands (an if's second is its 5, where it has one). */
    private int endOf(int block) {
      int next = second[block];
      return op[next] == 5 ? second[next] : next;
    }
  }

  /** READING of a whole MODULE. */
  private static final class ModuleReader {
    private static final int[] HEADER = {0, 97, 115, 109, 1, 0, 0, 0};
    private final Scan scan = new Scan();
    private final CodeReader codeReader = new CodeReader();
    private int latestId;

    private void read(ModuleRows rows, byte[] tape, int n) {
      rows.clear();
      System.arraycopy(tape, 0, rows.text, 0, n);
      scan.begin(rows.text, n);
      for (int k = 0; k < HEADER.length && scan.fine(); k++) {
        scan.expect(HEADER[k]);
      }
      latestId = 0;
      for (int k = 0; k < TAPE_ROOM && scan.fine() && scan.at < n; k++) {
        int id = sectionId();
        if (id == 10) {
          codeReader.read(scan, rows.codes);
        } else {
          content(rows, id);
        }
        scan.widen(n);
      }
      if (rows.functions != rows.codes.size) {
        scan.fail(MALFORMED, n);
      }
    }

    /** Reads the size, too: up to there the scan goes. */
    private int sectionId() {
      int where = scan.at;
      int id = scan.next();
      if (id == 2 || id == 8 || id == 11) {
        scan.fail(REFUSED, where);
      } else if (id > 11 || (id != 0 && id <= latestId)) {
        scan.fail(MALFORMED, where);
      }
      if (scan.fine()) {
        scan.narrow();
        latestId = id == 0 ? latestId : id;
      }
      return id;
    }

    private void content(ModuleRows rows, int id) {
      if (!scan.fine()) {
        return;
      }
      if (id == 0) {
        skipName();
        scan.at = scan.end;
        return;
      }
      int n = scan.vec();
      for (int k = 0; k < n && scan.fine(); k++) {
        thing(rows, id, k);
      }
    }

    private void thing(ModuleRows rows, int id, int k) {
      switch (id) {
        case 1:
          type(rows);
          break;
        case 3:
          rows.functionTypes[k] = (int) scan.unsigned();
          rows.functions++;
          break;
        case 4:
          scan.expect(112);
          limits(rows.tableLimits);
          rows.tables++;
          break;
        case 5:
          limits(rows.memoryLimits);
          rows.memories++;
          break;
        case 6:
          oneGlobal(rows, k);
          break;
        case 7:
          oneExport(rows, k);
          break;
        default:
          element(rows, k);
          break;
      }
    }

    private void type(ModuleRows rows) {
      int row = 3 * rows.types;
      scan.expect(96);
      int n = scan.fine() ? scan.vec() : 0;
      rows.typeRows[row] = scan.at;
      rows.typeRows[row + 1] = n;
      for (int k = 0; k < n && scan.fine(); k++) {
        scan.valueType();
      }
      if (!scan.fine()) {
        return;
      }
      int where = scan.at;
      int results = scan.vec();
      if (results > 1) {
        scan.fail(MALFORMED, where);
      }
      rows.typeRows[row + 2] = results == 1 && scan.fine() ? scan.valueType() : 0;
      rows.types++;
    }

    private void limits(long[] limits) {
      if (!scan.fine()) {
        return;
      }
      int where = scan.at;
      int flag = scan.next();
      if (flag > 1) {
        scan.fail(MALFORMED, where);
      }
      limits[0] = scan.fine() ? scan.unsigned() : 0;
      limits[1] = scan.fine() && flag == 1 ? scan.unsigned() : -1;
    }

    private void oneGlobal(ModuleRows rows, int k) {
      rows.globalRows[3 * k] = scan.valueType();
      if (!scan.fine()) {
        return;
      }
      int where = scan.at;
      rows.globalRows[3 * k + 1] = scan.next();
      if (rows.globalRows[3 * k + 1] > 1) {
        scan.fail(MALFORMED, where);
      }
      rows.globalRows[3 * k + 2] = operator();
      rows.globalValues[k] = constant(rows.globalRows[3 * k + 2]);
      rows.globals++;
    }

    private int operator() {
      if (!scan.fine()) {
        return 0;
      }
      int where = scan.at;
      int operator = scan.next();
      if (CodeReader.isRefused(operator)) {
        scan.fail(REFUSED, where);
      } else if (operator != 65 && operator != 66 && operator != 35) {
        scan.fail(MALFORMED, where);
      }
      return operator;
    }

    private long constant(int operator) {
      if (!scan.fine()) {
        return 0;
      }
      long value = operator == 35 ? scan.unsigned() : scan.signed(operator == 65 ? 32 : 64);
      if (scan.fine()) {
        scan.expect(11);
      }
      return value;
    }

    /** How many bytes the name has; the scan stands behind it. */
    private int skipName() {
      long length = scan.unsigned();
      if (length > scan.end - scan.at) {
        scan.fail(MALFORMED, scan.end);
      }
      if (!scan.fine()) {
        return 0;
      }
      scan.at += (int) length;
      return (int) length;
    }

    private void oneExport(ModuleRows rows, int k) {
      int row = 4 * k;
      int length = skipName();
      rows.exportRows[row] = scan.at - length;
      rows.exportRows[row + 1] = length;
      if (!scan.fine()) {
        return;
      }
      int where = scan.at;
      rows.exportRows[row + 2] = scan.next();
      if (rows.exportRows[row + 2] > 3) {
        scan.fail(MALFORMED, where);
      }
      rows.exportRows[row + 3] = scan.fine() ? (int) scan.unsigned() : 0;
      rows.exports++;
    }

    private void element(ModuleRows rows, int k) {
      int row = 3 * k;
      int where = scan.at;
      if (scan.unsigned() != 0) {
        scan.fail(MALFORMED, where);
      }
      rows.elementRows[row] = operator();
      rows.elementOffsets[k] = constant(rows.elementRows[row]);
      int n = scan.fine() ? scan.vec() : 0;
      rows.elementRows[row + 1] = rows.listed;
      rows.elementRows[row + 2] = n;
      for (int j = 0; j < n && scan.fine() && rows.listed < TAPE_ROOM; j++) {
        rows.elementFunctions[rows.listed] = (int) scan.unsigned();
        rows.listed++;
      }
      rows.elements++;
    }
  }

  /** READING of the CODES. */
  private static final class CodeReader {
    private static final int OPEN_MOST = 20;
    // what stands open: the INSTRUCTION's number, of an if behind its 5 that of the 5
    private final int[] open = new int[OPEN_MOST];
    private int depth;

    private static boolean isRefused(int op) {
      return op == 42 || op == 43 || op == 56 || op == 57 || op == 67 || op == 68
          || (op >= 91 && op <= 102) || (op >= 139 && op <= 166)
          || (op >= 168 && op <= 171) || (op >= 174 && op <= 191);
    }

    private static boolean isAlone(int op) {
      return op == 0 || op == 1 || op == 15 || op == 26 || op == 27 || (op >= 69 && op <= 90)
          || (op >= 103 && op <= 138) || op == 167 || op == 172 || op == 173;
    }

    private static boolean hasNumber(int op) {
      return op == 16 || (op >= 32 && op <= 36);
    }

    private void read(Scan scan, CodeRows rows) {
      int outerEnd = scan.end;
      int n = scan.fine() ? scan.vec() : 0;
      for (int code = 0; code < n && scan.fine(); code++) {
        scan.narrow();
        locals(scan, rows, code);
        rows.starts[code] = rows.instructions;
        depth = 0;
        boolean closed = false;
        for (int k = 0; k < TAPE_ROOM && scan.fine() && !closed; k++) {
          closed = instruction(scan, rows);
        }
        rows.ends[code] = Math.max(0, rows.instructions - 1);
        rows.size++;
        scan.widen(outerEnd);
      }
    }

    private void locals(Scan scan, CodeRows rows, int code) {
      int groups = scan.fine() ? scan.vec() : 0;
      int had = 0;
      for (int k = 0; k < groups && scan.fine(); k++) {
        int where = scan.at;
        long n = scan.unsigned();
        if (had + n > CodeRows.LOCALS_MOST) {
          scan.fail(REFUSED, where);
        }
        int type = scan.fine() ? scan.valueType() : 0;
        for (int j = 0; j < n && scan.fine(); j++) {
          rows.localTypes[code * CodeRows.LOCALS_MOST + had] = (byte) type;
          had++;
        }
      }
      rows.locals[code] = had;
    }

    /** Whether it was the 11 that closes the CODE. */
    private boolean instruction(Scan scan, CodeRows rows) {
      int where = scan.at;
      int op = scan.next();
      if (!scan.fine()) {
        return false;
      }
      if (op == 11) {
        return close(rows);
      }
      if (op == 5) {
        otherPart(scan, rows, where);
      } else if (op >= 2 && op <= 4) {
        block(scan, rows, op, where);
      } else if (isAlone(op)) {
        rows.add(op);
      } else if (isRefused(op)) {
        scan.fail(REFUSED, where);
      } else if (op == 14) {
        branchTable(scan, rows);
      } else {
        withOperands(scan, rows, op, where);
      }
      return false;
    }

    private boolean close(CodeRows rows) {
      int here = rows.add(11);
      if (depth == 0) {
        return true;
      }
      depth--;
      rows.second[open[depth]] = here;
      return false;
    }

    private void otherPart(Scan scan, CodeRows rows, int where) {
      if (depth == 0 || rows.op[open[depth - 1]] != 4) {
        scan.fail(MALFORMED, where);
        return;
      }
      int here = rows.add(5);
      rows.second[open[depth - 1]] = here;
      open[depth - 1] = here;
    }

    private void block(Scan scan, CodeRows rows, int op, int where) {
      if (depth >= OPEN_MOST) {
        scan.fail(REFUSED, where);
        return;
      }
      int here = rows.add(op);
      if (scan.at < scan.end && scan.text[scan.at] == 64) {
        scan.at++;
      } else {
        rows.first[here] = scan.valueType();
      }
      open[depth] = here;
      depth++;
    }

    private void withOperands(Scan scan, CodeRows rows, int op, int where) {
      int here = rows.add(op);
      if (op == 12 || op == 13) {
        rows.first[here] = rows.labels;
        rows.addLabel(scan.unsigned());
      } else if (hasNumber(op)) {
        rows.first[here] = (int) scan.unsigned();
      } else if (op == 17) {
        rows.first[here] = (int) scan.unsigned();
        zero(scan);
      } else if (op == 63 || op == 64) {
        zero(scan);
      } else if (op == 65 || op == 66) {
        rows.first[here] = scan.signed(op == 65 ? 32 : 64);
      } else if (op >= 40 && op <= 62) {
        rows.second[here] = (int) Math.min(scan.unsigned(), 99);
        rows.first[here] = scan.fine() ? scan.unsigned() : 0;
      } else {
        scan.fail(MALFORMED, where);
      }
    }

    private void zero(Scan scan) {
      if (scan.fine()) {
        scan.expect(0);
      }
    }

    private void branchTable(Scan scan, CodeRows rows) {
      int here = rows.add(14);
      rows.first[here] = rows.labels;
      int n = scan.vec();
      rows.second[here] = n;
      for (int k = 0; k <= n && scan.fine(); k++) {
        rows.addLabel(scan.unsigned());
      }
    }
  }

  /** Judges whether a MODULE that was read is VALID. */
  private static final class Judge {
    private static final int UNKNOWN = 0;
    private static final int TABLE_MOST = 100;
    private static final int MEMORY_MOST = 2;
    private static final int HEIGHT_MOST = 4100;
    private static final int DEPTH_MOST = 22;
    private ModuleRows rows = null;
    private CodeRows code = null;
    private int function;
    private boolean sound;
    private final int[] stack = new int[HEIGHT_MOST];
    private int height;
    private final int[] opener = new int[DEPTH_MOST];
    private final int[] floor = new int[DEPTH_MOST];
    private final int[] gives = new int[DEPTH_MOST];
    private final boolean[] dead = new boolean[DEPTH_MOST];
    private int depth;

    private int verdictOn(ModuleRows module) {
      rows = module;
      code = module.codes;
      if (!typesAreThere() || rows.tables > 1 || rows.memories > 1) {
        return INVALID;
      }
      int verdict = rows.tables == 1 ? limitsVerdict(rows.tableLimits, TABLE_MOST) : 0;
      if (verdict == 0 && rows.memories == 1) {
        verdict = limitsVerdict(rows.memoryLimits, MEMORY_MOST);
      }
      if (verdict != 0) {
        return verdict;
      }
      if (!globalsFit() || !exportsFit() || !elementsFit()) {
        return INVALID;
      }
      for (int f = 0; f < rows.functions; f++) {
        if (!functionFits(f)) {
          return INVALID;
        }
      }
      return 0;
    }

    private boolean typesAreThere() {
      for (int f = 0; f < rows.functions; f++) {
        if (rows.functionTypes[f] < 0 || rows.functionTypes[f] >= rows.types) {
          return false;
        }
      }
      return true;
    }

    private int limitsVerdict(long[] limits, int most) {
      if (limits[1] >= 0 && limits[1] < limits[0]) {
        return INVALID;
      }
      return limits[0] > most || limits[1] > most ? REFUSED : 0;
    }

    private boolean globalsFit() {
      for (int g = 0; g < rows.globals; g++) {
        int due = rows.globalRows[3 * g] == I32 ? 65 : 66;
        if (rows.globalRows[3 * g + 2] != due) {
          return false;
        }
      }
      return true;
    }

    private boolean exportsFit() {
      for (int i = 0; i < rows.exports; i++) {
        int number = rows.numberOf(i);
        if (number < 0 || number >= thingsOfKind(rows.kindOf(i))) {
          return false;
        }
        for (int j = 0; j < i; j++) {
          if (sameName(i, j)) {
            return false;
          }
        }
      }
      return true;
    }

    private int thingsOfKind(int kind) {
      switch (kind) {
        case 0:
          return rows.functions;
        case 1:
          return rows.tables;
        case 2:
          return rows.memories;
        default:
          return rows.globals;
      }
    }

    private boolean sameName(int i, int j) {
      int one = rows.exportRows[4 * i];
      int other = rows.exportRows[4 * j];
      int length = rows.exportRows[4 * i + 1];
      if (length != rows.exportRows[4 * j + 1]) {
        return false;
      }
      for (int k = 0; k < length; k++) {
        if (rows.text[one + k] != rows.text[other + k]) {
          return false;
        }
      }
      return true;
    }

    private boolean elementsFit() {
      for (int e = 0; e < rows.elements; e++) {
        if (rows.tables == 0 || rows.elementRows[3 * e] != 65) {
          return false;
        }
      }
      for (int k = 0; k < rows.listed; k++) {
        if (rows.elementFunctions[k] < 0 || rows.elementFunctions[k] >= rows.functions) {
          return false;
        }
      }
      return true;
    }

    private boolean functionFits(int f) {
      function = f;
      sound = true;
      height = 0;
      depth = 0;
      openBlock(-1, rows.givenBy(rows.functionTypes[f]));
      for (int i = code.starts[f]; i <= code.ends[f] && sound; i++) {
        instruction(i, code.op[i]);
      }
      return sound;
    }

    private void push(int type) {
      if (height < HEIGHT_MOST) {
        stack[height] = type;
        height++;
      }
    }

    private int pop(int due) {
      int top = depth - 1;
      if (top < 0 || height <= floor[top]) {
        sound = sound && top >= 0 && dead[top];
        return due;
      }
      height--;
      int type = stack[height];
      if (type != UNKNOWN && due != UNKNOWN && type != due) {
        sound = false;
      }
      return type == UNKNOWN ? due : type;
    }

    /** What gives nothing has the type 0: then nothing is taken or put. */
    private void popGiven(int type) {
      if (type != 0) {
        pop(type);
      }
    }

    private void pushGiven(int type) {
      if (type != 0) {
        push(type);
      }
    }

    private void openBlock(int at, int type) {
      if (depth < DEPTH_MOST) {
        opener[depth] = at;
        floor[depth] = height;
        gives[depth] = type;
        dead[depth] = false;
        depth++;
      }
    }

    private void goDead() {
      if (depth > 0) {
        height = floor[depth - 1];
        dead[depth - 1] = true;
      }
    }

    private void instruction(int i, int op) {
      if (op <= 11) {
        structure(i, op);
      } else if (op <= 15) {
        branch(i, op);
      } else if (op <= 17) {
        callOf(i, op);
      } else if (op <= 27) {
        dropOrSelect(op);
      } else if (op <= 34) {
        local((int) code.first[i], op);
      } else if (op <= 36) {
        globalUse((int) code.first[i], op);
      } else if (op <= 64) {
        memoryUse(i, op);
      } else if (op <= 66) {
        push(op == 65 ? I32 : I64);
      } else {
        number(op);
      }
    }

    private void structure(int i, int op) {
      switch (op) {
        case 0:
          goDead();
          break;
        case 1:
          break;
        case 4:
          pop(I32);
          openBlock(i, (int) code.first[i]);
          break;
        case 5:
          closePart();
          if (depth > 0) {
            dead[depth - 1] = false;
          }
          break;
        case 11:
          closeBlock();
          break;
        default:
          openBlock(i, (int) code.first[i]);
          break;
      }
    }

    private void closePart() {
      if (depth == 0) {
        return;
      }
      if (gives[depth - 1] != 0) {
        pop(gives[depth - 1]);
      }
      sound = sound && height == floor[depth - 1];
    }

    private void closeBlock() {
      closePart();
      if (depth == 0) {
        return;
      }
      int at = opener[depth - 1];
      int type = gives[depth - 1];
      if (at >= 0 && code.op[at] == 4 && code.op[code.second[at]] == 11 && type != 0) {
        sound = false;
      }
      depth--;
      if (type != 0) {
        push(type);
      }
    }

    private void branch(int i, int op) {
      if (op == 15) {
        popGiven(gives[0]);
        goDead();
        return;
      }
      if (op != 12) {
        pop(I32);
      }
      int from = (int) code.first[i];
      int last = from + (op == 14 ? code.second[i] : 0);
      int due = labelGives(last);
      for (int k = from; k <= last && sound; k++) {
        if (labelGives(k) != due) {
          sound = false;
        }
      }
      for (int k = from; k <= last && sound; k++) {
        resolve(k);
      }
      popGiven(due);
      if (op == 13) {
        pushGiven(due);
      } else {
        goDead();
      }
    }

    /** Which open block a label means; -1: none. */
    private int blockOf(int label) {
      int outwards = code.labelRows[3 * label];
      return outwards < 0 || outwards >= depth ? -1 : depth - 1 - outwards;
    }

    private boolean isLoop(int block) {
      return opener[block] >= 0 && code.op[opener[block]] == 3;
    }

    private int labelGives(int label) {
      int block = blockOf(label);
      if (block < 0) {
        sound = false;
        return 0;
      }
      return isLoop(block) ? 0 : gives[block];
    }

    /** From here on the label tells where to go on, at what height, with how many values. */
    private void resolve(int label) {
      int block = blockOf(label);
      int target = code.ends[function];
      if (isLoop(block)) {
        target = opener[block] + 1;
      } else if (opener[block] >= 0) {
        target = code.endOf(opener[block]);
      }
      code.labelRows[3 * label] = target;
      code.labelRows[3 * label + 1] = floor[block];
      code.labelRows[3 * label + 2] = isLoop(block) || gives[block] == 0 ? 0 : 1;
    }

    private void callOf(int i, int op) {
      int number = (int) code.first[i];
      int type = number;
      if (op == 16) {
        type = number >= 0 && number < rows.functions ? rows.functionTypes[number] : -1;
      } else {
        sound = sound && rows.tables > 0;
        pop(I32);
      }
      if (type < 0 || type >= rows.types) {
        sound = false;
        return;
      }
      for (int k = rows.argumentsOf(type) - 1; k >= 0; k--) {
        pop(rows.argumentType(type, k));
      }
      pushGiven(rows.givenBy(type));
    }

    private void dropOrSelect(int op) {
      if (op == 26) {
        pop(UNKNOWN);
        return;
      }
      pop(I32);
      int one = pop(UNKNOWN);
      push(pop(one));
    }

    private void local(int number, int op) {
      int type = rows.functionTypes[function];
      int taken = rows.argumentsOf(type);
      if (number < 0 || number >= taken + code.locals[function]) {
        sound = false;
        return;
      }
      int due = number < taken ? rows.argumentType(type, number)
          : code.localTypes[function * CodeRows.LOCALS_MOST + number - taken];
      if (op != 32) {
        pop(due);
      }
      if (op != 33) {
        push(due);
      }
    }

    private void globalUse(int number, int op) {
      if (number < 0 || number >= rows.globals) {
        sound = false;
      } else if (op == 35) {
        push(rows.globalRows[3 * number]);
      } else {
        sound = sound && rows.globalRows[3 * number + 1] == 1;
        pop(rows.globalRows[3 * number]);
      }
    }

    private void memoryUse(int i, int op) {
      sound = sound && rows.memories > 0;
      if (op == 63) {
        push(I32);
        return;
      }
      if (op == 64) {
        pop(I32);
        push(I32);
        return;
      }
      int align = code.second[i];
      sound = sound && align < 4 && 1 << align <= width(op);
      if (op >= 54) {
        pop(accessType(op));
      }
      pop(I32);
      if (op < 54) {
        push(accessType(op));
      }
    }

    private static int accessType(int op) {
      boolean small = op == 40 || (op >= 44 && op <= 47) || op == 54 || op == 58 || op == 59;
      return small ? I32 : I64;
    }

    private static int width(int op) {
      switch (op) {
        case 44:
        case 45:
        case 48:
        case 49:
        case 58:
        case 60:
          return 1;
        case 46:
        case 47:
        case 50:
        case 51:
        case 59:
        case 61:
          return 2;
        case 41:
        case 55:
          return 8;
        default:
          return 4;
      }
    }

    private void number(int op) {
      if (op == 167) {
        turn(I64, 1, I32);
      } else if (op >= 172) {
        turn(I32, 1, I64);
      } else if (op <= 79) {
        turn(I32, op == 69 ? 1 : 2, I32);
      } else if (op <= 90) {
        turn(I64, op == 80 ? 1 : 2, I32);
      } else if (op <= 120) {
        turn(I32, op <= 105 ? 1 : 2, I32);
      } else {
        turn(I64, op <= 123 ? 1 : 2, I64);
      }
    }

    private void turn(int taken, int times, int given) {
      for (int k = 0; k < times; k++) {
        pop(taken);
      }
      push(given);
    }
  }

  /** The MODULE as it is MADE, and its RUNS. */
  private static final class Machine {
    private static final int PAGE = 65536;
    private static final int PAGES_MOST = 2;
    private static final int PLACES_MOST = 100;
    private static final int NESTED_MOST = 64;
    private static final int TICKS_MOST = 1000000;
    // of an i32, without sign
    private static final long LOW = 4294967295L;
    private static final int LEAST_32 = 1 << 31;
    private static final long LEAST_64 = 1L << 63;
    // each value was put by a step, but for the locals of 64 CALLS
    private static final int STACK_MOST = 24000;
    private ModuleRows rows = null;
    private CodeRows code = null;
    private final long[] globals = new long[VEC_MOST];
    private final long[] words = new long[PAGES_MOST * PAGE / 8];
    private int pages = 0;
    private final int[] placed = new int[PLACES_MOST];
    private int places = 0;
    private final long[] stack = new long[STACK_MOST];
    private int height;
    // of each open CALL: its FUNCTION, where its LOCALS begin, where the caller goes on
    private final int[] frames = new int[3 * NESTED_MOST];
    private int nested;
    private int next;
    private int base;
    private int floor;
    private int taken;
    private int trap;
    private long given;

    /** False, and nothing is changed, where an ELEMENT goes beyond the TABLE. */
    private boolean make(ModuleRows module) {
      int room = module.tables > 0 ? (int) module.tableLimits[0] : 0;
      for (int e = 0; e < module.elements; e++) {
        if ((module.elementOffsets[e] & LOW) + module.elementRows[3 * e + 2] > room) {
          return false;
        }
      }
      rows = module;
      code = module.codes;
      System.arraycopy(module.globalValues, 0, globals, 0, module.globals);
      // what is beyond the pages is 0 at any time: a page that comes later is so, too
      Arrays.fill(words, 0L);
      pages = module.memories > 0 ? (int) module.memoryLimits[0] : 0;
      places = room;
      Arrays.fill(placed, -1);
      for (int e = 0; e < module.elements; e++) {
        System.arraycopy(module.elementFunctions, module.elementRows[3 * e + 1], placed,
            (int) module.elementOffsets[e], module.elementRows[3 * e + 2]);
      }
      return true;
    }

    private int bytes() {
      return pages * PAGE;
    }

    private int byteAt(int i) {
      return (int) (words[i >> 3] >>> ((i & 7) << 3)) & 255;
    }

    private void setByte(int i, int value) {
      int shift = (i & 7) << 3;
      words[i >> 3] = (words[i >> 3] & ~(255L << shift)) | ((long) (value & 255) << shift);
    }

    private int start(int function, long[] arguments, int steps) {
      height = 0;
      nested = 0;
      taken = 0;
      trap = 0;
      given = 0;
      int type = rows.functionTypes[function];
      for (int k = 0; k < rows.argumentsOf(type) && k < arguments.length; k++) {
        boolean small = rows.argumentType(type, k) == I32;
        push(small ? (int) arguments[k] : arguments[k]);
      }
      enter(function, 0);
      boolean spent = false;
      for (int tick = 0; tick < TICKS_MOST && going() && !spent; tick++) {
        int op = code.op[next];
        if (op == 5 || op == 11) {
          mark(op);
        } else if (taken >= steps) {
          spent = true;
        } else {
          taken++;
          next++;
          step(op, next - 1);
        }
      }
      if (spent) {
        return 1;
      }
      if (trap != 0) {
        return 2;
      }
      given = rows.givenBy(type) == 0 ? 0 : pop();
      return 0;
    }

    private void push(long value) {
      if (height < STACK_MOST) {
        stack[height] = value;
        height++;
      }
    }

    private long pop() {
      if (height <= 0) {
        return 0;
      }
      height--;
      return stack[height];
    }

    private boolean going() {
      return nested > 0 && trap == 0 && next >= 0 && next < code.instructions;
    }

    private void enter(int function, int back) {
      if (nested >= NESTED_MOST) {
        trap = 8;
        return;
      }
      int row = 3 * nested;
      nested++;
      int type = rows.functionTypes[function];
      base = height - rows.argumentsOf(type);
      frames[row] = function;
      frames[row + 1] = base;
      frames[row + 2] = back;
      for (int k = 0; k < code.locals[function]; k++) {
        push(0);
      }
      floor = height;
      next = code.starts[function];
    }

    private void leave() {
      int row = 3 * (nested - 1);
      int gives = rows.givenBy(rows.functionTypes[frames[row]]);
      long value = gives == 0 ? 0 : pop();
      height = frames[row + 1];
      if (gives != 0) {
        push(value);
      }
      next = frames[row + 2];
      nested--;
      if (nested > 0) {
        int caller = frames[row - 3];
        base = frames[row - 2];
        floor = base + rows.argumentsOf(rows.functionTypes[caller]) + code.locals[caller];
      }
    }

    /** An 11 closes a block or the FUNCTION; a 5 that is come to ends the first part of an if. */
    private void mark(int op) {
      if (op == 5) {
        next = code.second[next] + 1;
      } else if (next == code.ends[frames[3 * (nested - 1)]]) {
        leave();
      } else {
        next++;
      }
    }

    private void step(int op, int here) {
      if (op <= 17) {
        control(op, here);
      } else if (op <= 36) {
        variable(op, (int) code.first[here]);
      } else if (op == 63) {
        push(pages);
      } else if (op == 64) {
        grow();
      } else if (op <= 53) {
        load(op, code.first[here]);
      } else if (op <= 62) {
        store(op, code.first[here]);
      } else if (op <= 66) {
        push(code.first[here]);
      } else {
        number(op);
      }
    }

    private void control(int op, int here) {
      int first = (int) code.first[here];
      switch (op) {
        case 0:
          trap = 1;
          break;
        case 4:
          if ((int) pop() == 0) {
            next = code.second[here] + 1;
          }
          break;
        case 12:
          branch(first);
          break;
        case 13:
          if ((int) pop() != 0) {
            branch(first);
          }
          break;
        case 14:
          long chosen = pop() & LOW;
          branch(first + (int) Math.min(chosen, code.second[here]));
          break;
        case 15:
          leave();
          break;
        case 16:
          enter(first, next);
          break;
        case 17:
          callIndirect(first);
          break;
        default:
          break;
      }
    }

    private void branch(int label) {
      boolean carries = code.labelRows[3 * label + 2] == 1;
      long value = carries ? pop() : 0;
      height = floor + code.labelRows[3 * label + 1];
      if (carries) {
        push(value);
      }
      next = code.labelRows[3 * label];
    }

    private void callIndirect(int type) {
      long i = pop() & LOW;
      if (i >= places) {
        trap = 5;
        return;
      }
      int function = placed[(int) i];
      if (function < 0) {
        trap = 6;
      } else if (!rows.sameTypes(type, rows.functionTypes[function])) {
        trap = 7;
      } else {
        enter(function, next);
      }
    }

    private void variable(int op, int number) {
      switch (op) {
        case 26:
          pop();
          break;
        case 27:
          int chosen = (int) pop();
          long other = pop();
          long one = pop();
          push(chosen != 0 ? one : other);
          break;
        case 35:
          push(globals[number]);
          break;
        case 36:
          globals[number] = pop();
          break;
        default:
          local(op, base + number);
          break;
      }
    }

    private void local(int op, int slot) {
      if (slot < 0 || slot >= height) {
        return;
      }
      if (op == 32) {
        push(stack[slot]);
        return;
      }
      long value = pop();
      stack[slot] = value;
      if (op == 34) {
        push(value);
      }
    }

    private void grow() {
      long more = pop() & LOW;
      long most = rows.memoryLimits[1] < 0 ? PAGES_MOST : Math.min(rows.memoryLimits[1], PAGES_MOST);
      if (pages + more > most) {
        push(-1);
        return;
      }
      push(pages);
      pages += (int) more;
    }

    /** The address of so many bytes, or -1 and a TRAP. */
    private int address(long index, long offset, int width) {
      long from = (index & LOW) + offset;
      if (from + width > bytes()) {
        trap = 4;
        return -1;
      }
      return (int) from;
    }

    private void load(int op, long offset) {
      int width = Judge.width(op);
      int from = address(pop(), offset, width);
      if (from < 0) {
        return;
      }
      long value = 0;
      for (int k = width - 1; k >= 0; k--) {
        value = value << 8 | byteAt(from + k);
      }
      // of 44 to 53 the even ones have a sign
      boolean signed = op == 40 || (op >= 44 && (op & 1) == 0);
      int above = 64 - 8 * width;
      push(signed ? value << above >> above : value);
    }

    private void store(int op, long offset) {
      long value = pop();
      int width = Judge.width(op);
      int from = address(pop(), offset, width);
      for (int k = 0; k < width && from >= 0; k++) {
        setByte(from + k, (int) (value >>> (8 * k)) & 255);
      }
    }

    private void number(int op) {
      if (op == 167) {
        push((int) pop());
      } else if (op == 172) {
        push(pop());
      } else if (op == 173) {
        push(pop() & LOW);
      } else if (op == 69 || op == 80) {
        push(pop() == 0 ? 1 : 0);
      } else if (op <= 90) {
        long right = pop();
        // an i32 is kept with its sign: so compared without a sign it keeps its order
        push(compare(op <= 79 ? op - 69 : op - 80, pop(), right) ? 1 : 0);
      } else if (op <= 105) {
        push(bits32(op - 103, (int) pop()));
      } else if (op <= 120) {
        int right = (int) pop();
        push(op <= 112 ? whole32(op - 103, (int) pop(), right) : shifted32(op - 103, (int) pop(), right));
      } else if (op <= 123) {
        push(bits64(op - 121, pop()));
      } else {
        long right = pop();
        push(op <= 130 ? whole64(op - 121, pop(), right) : shifted64(op - 121, pop(), right));
      }
    }

    private static boolean below(long a, long b) {
      return a + LEAST_64 < b + LEAST_64;
    }

    private static boolean compare(int kind, long a, long b) {
      switch (kind) {
        case 1:
          return a == b;
        case 2:
          return a != b;
        case 3:
          return a < b;
        case 4:
          return below(a, b);
        case 5:
          return a > b;
        case 6:
          return below(b, a);
        case 7:
          return a <= b;
        case 8:
          return !below(b, a);
        case 9:
          return a >= b;
        default:
          return !below(a, b);
      }
    }

    private static int bits32(int kind, int a) {
      if (kind == 2) {
        return Integer.bitCount(a);
      }
      if (kind == 1) {
        return Integer.bitCount((a & -a) - 1);
      }
      int filled = a | a >>> 1;
      filled |= filled >>> 2;
      filled |= filled >>> 4;
      filled |= filled >>> 8;
      filled |= filled >>> 16;
      return 32 - Integer.bitCount(filled);
    }

    private static int bits64(int kind, long a) {
      if (kind == 2) {
        return Long.bitCount(a);
      }
      if (kind == 1) {
        return Long.bitCount((a & -a) - 1);
      }
      long filled = a | a >>> 1;
      filled |= filled >>> 2;
      filled |= filled >>> 4;
      filled |= filled >>> 8;
      filled |= filled >>> 16;
      filled |= filled >>> 32;
      return 64 - Long.bitCount(filled);
    }

    private int whole32(int kind, int a, int b) {
      switch (kind) {
        case 3:
          return a + b;
        case 4:
          return a - b;
        case 5:
          return a * b;
        default:
          break;
      }
      if (b == 0) {
        trap = 2;
        return 0;
      }
      if (kind == 6 && a == LEAST_32 && b == -1) {
        trap = 3;
        return 0;
      }
      long low = a & LOW;
      long by = b & LOW;
      switch (kind) {
        case 6:
          return a / b;
        case 7:
          return (int) (low / by);
        case 8:
          return b == -1 ? 0 : a % b;
        default:
          return (int) (low % by);
      }
    }

    private long whole64(int kind, long a, long b) {
      switch (kind) {
        case 3:
          return a + b;
        case 4:
          return a - b;
        case 5:
          return a * b;
        default:
          break;
      }
      if (b == 0) {
        trap = 2;
        return 0;
      }
      if (kind == 6 && a == LEAST_64 && b == -1) {
        trap = 3;
        return 0;
      }
      switch (kind) {
        case 6:
          return a / b;
        case 7:
          return quotient(a, b);
        case 8:
          return b == -1 ? 0 : a % b;
        default:
          return a - quotient(a, b) * b;
      }
    }

    /** Division without sign; the divisor is not 0. */
    private static long quotient(long a, long b) {
      if (b <= 0) {
        return b == 0 || below(a, b) ? 0 : 1;
      }
      if (a >= 0) {
        return a / b;
      }
      // half of it divided, doubled, is at most one too low
      long near = ((a >>> 1) / b) << 1;
      return below(a - near * b, b) ? near : near + 1;
    }

    private static int shifted32(int kind, int a, int b) {
      switch (kind) {
        case 10:
          return a & b;
        case 11:
          return a | b;
        case 12:
          return a ^ b;
        case 13:
          return a << b;
        case 14:
          return a >> b;
        case 15:
          return a >>> b;
        case 16:
          return a << b | a >>> -b;
        default:
          return a >>> b | a << -b;
      }
    }

    private static long shifted64(int kind, long a, long b) {
      int by = (int) b & 63;
      switch (kind) {
        case 10:
          return a & b;
        case 11:
          return a | b;
        case 12:
          return a ^ b;
        case 13:
          return a << by;
        case 14:
          return a >> by;
        case 15:
          return a >>> by;
        case 16:
          return a << by | a >>> -by;
        default:
          return a >>> by | a << -by;
      }
    }
  }

  /** DEFINITIONS as told, and their CODE in one row: what takes comes behind what it takes. */
  private static final class Program {
    private static final int DEFINITIONS_MOST = 20;
    private static final int ARGUMENTS_MOST = 4;
    // an ATOM adds less than six, with its share of what is around it
    private static final int CODE_MOST = 3000;
    private static final int NAMES_MOST = DEFINITIONS_MOST * ARGUMENTS_MOST;
    private static final int INT = 1;
    private static final int LIST = 2;
    private static final int ACT = 3;
    private static final int NUMBER = 0;
    private static final int NAME = 1;
    private static final int CALL = 2;
    private static final int ACT_OF = 3;
    private static final int NIL = 4;
    private static final int CONS = 5;
    private static final int DO = 6;
    private static final int NEGATE = 7;
    private static final int UNLESS = 8;
    private static final int SKIP = 9;
    private static final int MATCH = 10;
    private static final int PART = 11;
    private static final int BIND = 12;
    private static final int UNBIND = 13;
    private static final int WANT = 14;
    private static final int PASS = 15;
    private static final int JOIN = 16;
    private static final int GIVE = 17;
    // operators stand behind these by their own sign's number, == by the one below
    private static final int OPERATORS = 32;
    private static final int EQUAL = 128;

    private int functions;
    private final long[] names = new long[DEFINITIONS_MOST];
    private final int[] nameAts = new int[DEFINITIONS_MOST];
    private final int[] takes = new int[DEFINITIONS_MOST];
    private final int[] gives = new int[DEFINITIONS_MOST];
    private final int[] starts = new int[DEFINITIONS_MOST];
    private final long[] argumentNames = new long[NAMES_MOST];
    private final int[] argumentAts = new int[NAMES_MOST];
    private final int[] argumentTypes = new int[NAMES_MOST];
    private int length;
    private final int[] op = new int[CODE_MOST];
    private final long[] value = new long[CODE_MOST];
    private final int[] at = new int[CODE_MOST];
    private final int[] extra = new int[CODE_MOST];

    private void clear() {
      functions = 0;
      length = 0;
    }

    private int add(int operator, long what, int where, int more) {
      if (length >= CODE_MOST) {
        return CODE_MOST - 1;
      }
      op[length] = operator;
      value[length] = what;
      at[length] = where;
      extra[length] = more;
      length++;
      return length - 1;
    }

    /** A jump goes on with what is added next. */
    private void land(int jump) {
      value[jump] = length;
    }

    /** The first FUNCTION of that NAME; -1: none. */
    private int find(long name) {
      for (int f = 0; f < functions; f++) {
        if (names[f] == name) {
          return f;
        }
      }
      return -1;
    }

    private boolean takesAndGivesInt(int f) {
      if (f < 0 || f >= functions || gives[f] != INT) {
        return false;
      }
      for (int k = 0; k < takes[f]; k++) {
        if (argumentTypes[ARGUMENTS_MOST * f + k] != INT) {
          return false;
        }
      }
      return true;
    }
  }

  /** Reads a PROGRAM; its CODE names places and TYPES for the Checker. */
  private static final class Parser {
    private static final String KEYWORDS = "fun  let  in   if   then else matchwith nil  cons do   int  list act  ";
    private static final int KEYWORD_ROOM = 5;
    private static final int WORD_MOST = 10;
    private static final int NUMBER_MOST = 2147483647;
    private static final int OPEN_MOST = 30;
    private static final int ATOMS_MOST = 400;
    private static final String SIGNS = "(),:;=+-*/%<&|";
    // kinds of TOKENS: these, the KEYWORDS in their order, and signs by their own number
    private static final int END = 0;
    private static final int NAME = 1;
    private static final int NUMBER = 2;
    private static final int BAD = 3;
    private static final int FUN = 4;
    private static final int LET = 5;
    private static final int IN = 6;
    private static final int IF = 7;
    private static final int THEN = 8;
    private static final int ELSE = 9;
    private static final int MATCH = 10;
    private static final int WITH = 11;
    private static final int NIL = 12;
    private static final int CONS = 13;
    private static final int DO = 14;
    private static final int INT = 15;
    private static final int ACT = 17;
    private static final int EQUAL = Program.EQUAL;
    private static final int ARROW = 129;

    // each TOKEN has a byte at least; behind them stands the end
    private static final int TOKENS_MOST = TAPE_ROOM + 1;
    // what binds least comes first: < and ==, then + and -, then * / and %
    private static final int COMPARISON = 0;
    private static final int SUM = 1;
    private static final int PRODUCT = 2;

    private Program program = null;
    private byte[] text = new byte[0];
    private int end;
    private int next;
    private final int[] kinds = new int[TOKENS_MOST];
    private final int[] ats = new int[TOKENS_MOST];
    private final long[] values = new long[TOKENS_MOST];
    private int tokens;
    private int token;
    // of the TOKEN that is looked at
    private int kind;
    private int at;
    private long value;
    private int atoms;
    private int fault;

    /** The place of the first TOKEN with which no PROGRAM goes on, or -1. */
    private int parse(Program rows, byte[] tape, int n) {
      program = rows;
      program.clear();
      text = tape;
      end = Math.min(n, tape.length);
      readTokens();
      atoms = 0;
      fault = -1;
      token = -1;
      advance();
      for (int k = 0; k < Program.DEFINITIONS_MOST && fine() && (k == 0 || kind != END); k++) {
        definition(k);
      }
      if (fine() && kind != END) {
        fail();
      }
      return fault;
    }

    private boolean fine() {
      return fault < 0;
    }

    private void fail() {
      if (fault < 0) {
        fault = at;
      }
    }

    private int byteAt(int i) {
      return i >= 0 && i < end ? text[i] & 255 : 0;
    }

    private static boolean isDigit(int c) {
      return c >= '0' && c <= '9';
    }

    private static boolean isLetter(int c) {
      return c >= 'a' && c <= 'z';
    }

    /** Makes the row of TOKENS; what is none of them is BAD: it counts where it is come to. */
    private void readTokens() {
      tokens = 0;
      next = 0;
      skipBlanks();
      for (int k = 0; k < TAPE_ROOM && next < end; k++) {
        oneToken(byteAt(next));
        keepToken();
        skipBlanks();
      }
      at = end;
      kind = END;
      keepToken();
    }

    private void skipBlanks() {
      while (next < end && (text[next] == ' ' || text[next] == 10)) {
        next++;
      }
    }

    private void keepToken() {
      if (tokens < TOKENS_MOST) {
        kinds[tokens] = kind;
        ats[tokens] = at;
        values[tokens] = value;
        tokens++;
      }
    }

    private void oneToken(int c) {
      at = next;
      value = 0;
      if (isLetter(c)) {
        word();
      } else if (isDigit(c)) {
        number();
      } else {
        sign(c);
      }
    }

    /** Looks at the next TOKEN; behind the end there is none. */
    private void advance() {
      if (token + 1 < tokens) {
        token++;
        kind = kinds[token];
        at = ats[token];
        value = values[token];
      }
    }

    private void word() {
      while (next < end && (isLetter(byteAt(next)) || isDigit(byteAt(next)))) {
        int c = byteAt(next);
        // beyond ten signs it is no WORD: what it counts up to then is not used
        value = value * 37 + (isDigit(c) ? c - '0' + 1 : c - 'a' + 11);
        next++;
      }
      kind = next - at > WORD_MOST ? BAD : NAME;
      for (int k = 0; k < KEYWORDS.length() / KEYWORD_ROOM; k++) {
        if (isKeyword(k)) {
          kind = FUN + k;
        }
      }
    }

    private boolean isKeyword(int k) {
      if (next - at > KEYWORD_ROOM) {
        return false;
      }
      for (int j = 0; j < KEYWORD_ROOM; j++) {
        int due = at + j < next ? byteAt(at + j) : ' ';
        if (KEYWORDS.charAt(k * KEYWORD_ROOM + j) != due) {
          return false;
        }
      }
      return true;
    }

    private void number() {
      kind = NUMBER;
      while (next < end && isDigit(byteAt(next))) {
        value = Math.min(value * 10 + byteAt(next) - '0', 1L + NUMBER_MOST);
        next++;
      }
      if (value > NUMBER_MOST) {
        kind = BAD;
      }
    }

    private void sign(int c) {
      int behind = byteAt(at + 1);
      next++;
      if (c == '=' && behind == '=') {
        next++;
        kind = EQUAL;
      } else if (c == '-' && behind == '>') {
        next++;
        kind = ARROW;
      } else {
        kind = c < 128 && SIGNS.indexOf((char) c) >= 0 ? c : BAD;
      }
    }

    private void expect(int due) {
      if (!fine()) {
        return;
      }
      if (kind != due) {
        fail();
        return;
      }
      advance();
    }

    /** A TYPE: 1 int, 2 list, 3 act. */
    private int type() {
      if (!fine() || kind < INT || kind > ACT) {
        fail();
        return 0;
      }
      int told = kind - INT + 1;
      advance();
      return told;
    }

    private void definition(int f) {
      expect(FUN);
      program.nameAts[f] = at;
      program.names[f] = value;
      expect(NAME);
      expect('(');
      int n = 0;
      boolean more = fine();
      while (more && n < Program.ARGUMENTS_MOST) {
        int row = Program.ARGUMENTS_MOST * f + n;
        program.argumentAts[row] = at;
        program.argumentNames[row] = value;
        expect(NAME);
        expect(':');
        program.argumentTypes[row] = type();
        n++;
        more = fine() && kind == ',' && n < Program.ARGUMENTS_MOST;
        if (more) {
          advance();
        }
      }
      program.takes[f] = n;
      expect(')');
      expect(':');
      program.gives[f] = type();
      expect('=');
      program.starts[f] = program.length;
      program.functions = f + 1;
      int where = at;
      expression(1);
      program.add(Program.GIVE, 0, where, 0);
      expect(';');
    }

    private void expression(int open) {
      if (!fine()) {
        return;
      }
      if (open > OPEN_MOST) {
        fail();
        return;
      }
      if (kind == LET) {
        letIn(open);
      } else if (kind == IF) {
        ifElse(open);
      } else if (kind == MATCH) {
        match(open);
      } else {
        parts(COMPARISON, open);
      }
    }

    /** An E of which the TYPE is told. */
    private void wanted(int type, int open) {
      int where = at;
      expression(open);
      program.add(Program.WANT, type, where, 0);
    }

    private void letIn(int open) {
      advance();
      long name = value;
      expect(NAME);
      expect('=');
      expression(open + 1);
      expect(IN);
      program.add(Program.BIND, name, 0, 1);
      expression(open + 1);
      program.add(Program.UNBIND, 1, 0, 0);
    }

    private void ifElse(int open) {
      advance();
      wanted(Program.INT, open + 1);
      expect(THEN);
      int unless = program.add(Program.UNLESS, 0, 0, 0);
      expression(open + 1);
      expect(ELSE);
      int skip = program.add(Program.SKIP, 0, 0, 0);
      program.land(unless);
      int where = at;
      expression(open + 1);
      program.add(Program.JOIN, 0, where, 0);
      program.land(skip);
    }

    private void match(int open) {
      advance();
      wanted(Program.LIST, open + 1);
      expect(WITH);
      expect(NIL);
      expect(ARROW);
      int match = program.add(Program.MATCH, 0, 0, 0);
      expression(open + 1);
      expect('|');
      int skip = program.add(Program.SKIP, 0, 0, 0);
      program.land(match);
      program.add(Program.PART, 0, 0, 0);
      bindPart(2);
      expect(',');
      bindPart(1);
      expect(ARROW);
      int where = at;
      expression(open + 1);
      program.add(Program.UNBIND, 2, 0, 0);
      program.add(Program.JOIN, 0, where, 0);
      program.land(skip);
    }

    private void bindPart(int back) {
      program.add(Program.BIND, value, 0, back);
      expect(NAME);
    }

    private static int levelOf(int sign) {
      switch (sign) {
        case '<':
        case EQUAL:
          return COMPARISON;
        case '+':
        case '-':
          return SUM;
        case '*':
        case '/':
        case '%':
          return PRODUCT;
        default:
          return -1;
      }
    }

    /** Parts with signs of a level between, taken from the left; of a COMPARISON two parts at most. */
    private void parts(int level, int open) {
      // one more than there may be: the ATOM that is too many is the fault, not the sign ahead of it
      int most = level == COMPARISON ? 2 : ATOMS_MOST + 1;
      int operator = 0;
      boolean more = true;
      for (int k = 1; k <= most && more; k++) {
        int where = at;
        if (level == PRODUCT) {
          atom(open);
        } else {
          parts(level + 1, open);
        }
        more = fine() && k < most && levelOf(kind) == level;
        if (more || operator != 0) {
          program.add(Program.WANT, Program.INT, where, 0);
        }
        if (operator != 0) {
          program.add(operator, 0, 0, 0);
        }
        if (more) {
          operator = kind;
          advance();
        }
      }
    }

    private void countAtom() {
      if (atoms >= ATOMS_MOST) {
        fail();
      }
      atoms++;
    }

    /** The signs before it are taken in a row, not one within another: there may be 399 of them. */
    private void atom(int open) {
      int signs = 0;
      countAtom();
      while (fine() && kind == '-' && signs < ATOMS_MOST) {
        advance();
        countAtom();
        signs++;
      }
      if (!fine()) {
        return;
      }
      int where = at;
      plainAtom(open);
      if (signs > 0) {
        program.add(Program.WANT, Program.INT, where, 0);
      }
      if ((signs & 1) == 1) {
        program.add(Program.NEGATE, 0, 0, 0);
      }
    }

    private void plainAtom(int open) {
      switch (kind) {
        case NUMBER:
          program.add(Program.NUMBER, value, at, 0);
          advance();
          break;
        case NAME:
          nameOrCall(open);
          break;
        case '&':
          int sign = at;
          advance();
          program.add(Program.ACT_OF, value, at, sign);
          expect(NAME);
          break;
        case '(':
          advance();
          expression(open + 1);
          expect(')');
          break;
        case NIL:
          program.add(Program.NIL, 0, at, 0);
          advance();
          break;
        case CONS:
          pair(Program.CONS, Program.INT, Program.LIST, open);
          break;
        case DO:
          pair(Program.DO, Program.ACT, Program.INT, open);
          break;
        default:
          fail();
          break;
      }
    }

    private void pair(int operator, int first, int second, int open) {
      advance();
      expect('(');
      wanted(first, open + 1);
      expect(',');
      wanted(second, open + 1);
      expect(')');
      program.add(operator, 0, 0, 0);
    }

    private void nameOrCall(int open) {
      long name = value;
      int where = at;
      advance();
      if (kind != '(') {
        program.add(Program.NAME, name, where, 0);
        return;
      }
      advance();
      int n = 0;
      boolean more = true;
      while (more && n <= ATOMS_MOST) {
        int part = at;
        expression(open + 1);
        program.add(Program.PASS, name, part, n);
        n++;
        more = fine() && kind == ',';
        if (more) {
          advance();
        }
      }
      expect(')');
      program.add(Program.CALL, name, where, n);
    }
  }

  /** Judges a PROGRAM that was parsed: one way through its CODE, with the TYPES of what stands. */
  private static final class Checker {
    // the TYPE of what is none: it fits each
    private static final int ANY = 0;
    private static final int TYPES_MOST = 2000;
    private static final int BOUND_MOST = 100;
    private static final int PARTS_MOST = 40;
    private Program program = null;
    private final int[] types = new int[TYPES_MOST];
    private int height;
    private final long[] boundNames = new long[BOUND_MOST];
    private final int[] boundSlots = new int[BOUND_MOST];
    private int bound;
    private final int[] firstTypes = new int[PARTS_MOST];
    private int parts;
    private int fault;

    /** The first place of a fault, or -1; then NAMES, CALLS and acts tell numbers. */
    private int faultOf(Program rows) {
      program = rows;
      fault = -1;
      for (int f = 0; f < program.functions; f++) {
        checkNames(f);
      }
      for (int f = 0; f < program.functions; f++) {
        checkBody(f);
      }
      return fault;
    }

    private void note(int where) {
      if (fault < 0 || where < fault) {
        fault = where;
      }
    }

    private void checkNames(int f) {
      if (program.find(program.names[f]) < f) {
        note(program.nameAts[f]);
      }
      int row = Program.ARGUMENTS_MOST * f;
      for (int k = 0; k < program.takes[f]; k++) {
        for (int j = 0; j < k; j++) {
          if (program.argumentNames[row + j] == program.argumentNames[row + k]) {
            note(program.argumentAts[row + k]);
          }
        }
      }
    }

    private void checkBody(int f) {
      height = 0;
      bound = 0;
      parts = 0;
      for (int k = 0; k < program.takes[f]; k++) {
        int row = Program.ARGUMENTS_MOST * f + k;
        push(program.argumentTypes[row]);
        bind(program.argumentNames[row], height - 1);
      }
      int end = f + 1 < program.functions ? program.starts[f + 1] : program.length;
      for (int i = program.starts[f]; i < end; i++) {
        if (program.op[i] == Program.GIVE) {
          want(program.gives[f], program.at[i]);
        } else {
          check(i, program.op[i]);
        }
      }
    }

    private void push(int type) {
      if (height < TYPES_MOST) {
        types[height] = type;
        height++;
      }
    }

    private int pop() {
      if (height <= 0) {
        return ANY;
      }
      height--;
      return types[height];
    }

    private void drop(int n) {
      height = Math.max(0, height - n);
    }

    private void bind(long name, int slot) {
      if (bound < BOUND_MOST) {
        boundNames[bound] = name;
        boundSlots[bound] = slot;
        bound++;
      }
    }

    /** Where the innermost of that NAME stands, from where the CALL's begin; -1: none. */
    private int slotOf(long name) {
      for (int k = bound - 1; k >= 0; k--) {
        if (boundNames[k] == name) {
          return boundSlots[k];
        }
      }
      return -1;
    }

    private void want(int type, int where) {
      int is = pop();
      if (is != type && is != ANY && type != ANY) {
        note(where);
      }
      push(type);
    }

    private void check(int i, int op) {
      switch (op) {
        case Program.NUMBER:
          push(Program.INT);
          break;
        case Program.NAME:
          name(i);
          break;
        case Program.CALL:
          callOf(i);
          break;
        case Program.ACT_OF:
          actOf(i);
          break;
        case Program.NIL:
          push(Program.LIST);
          break;
        case Program.CONS:
          drop(2);
          push(Program.LIST);
          break;
        case Program.WANT:
          want((int) program.value[i], program.at[i]);
          break;
        case Program.PASS:
          pass(i);
          break;
        default:
          checkParts(i, op);
          break;
      }
    }

    private void checkParts(int i, int op) {
      switch (op) {
        case Program.NEGATE:
          break;
        case Program.UNLESS:
        case Program.MATCH:
          pop();
          break;
        case Program.SKIP:
          endFirstPart();
          break;
        case Program.PART:
          push(Program.INT);
          push(Program.LIST);
          break;
        case Program.BIND:
          bind(program.value[i], height - program.extra[i]);
          break;
        case Program.UNBIND:
          unbind((int) program.value[i]);
          break;
        case Program.JOIN:
          parts = Math.max(0, parts - 1);
          want(firstTypes[parts], program.at[i]);
          break;
        default:
          // do and the operators: of two the int that they give
          drop(2);
          push(Program.INT);
          break;
      }
    }

    private void endFirstPart() {
      int type = pop();
      if (parts < PARTS_MOST) {
        firstTypes[parts] = type;
        parts++;
      }
    }

    private void unbind(int n) {
      int type = pop();
      drop(n);
      bound = Math.max(0, bound - n);
      push(type);
    }

    private void name(int i) {
      int slot = slotOf(program.value[i]);
      if (slot < 0) {
        note(program.at[i]);
        push(ANY);
        return;
      }
      program.value[i] = slot;
      push(types[slot]);
    }

    private void pass(int i) {
      int f = program.find(program.value[i]);
      int k = program.extra[i];
      if (f >= 0 && k < program.takes[f]) {
        want(program.argumentTypes[Program.ARGUMENTS_MOST * f + k], program.at[i]);
      }
    }

    private void callOf(int i) {
      int f = program.find(program.value[i]);
      drop(program.extra[i]);
      if (f < 0) {
        note(program.at[i]);
        push(ANY);
        return;
      }
      if (program.takes[f] != program.extra[i]) {
        note(program.at[i]);
      }
      program.value[i] = f;
      push(program.gives[f]);
    }

    private void actOf(int i) {
      int f = program.find(program.value[i]);
      push(Program.ACT);
      if (f < 0) {
        note(program.at[i]);
        return;
      }
      if (program.takes[f] != 1 || !program.takesAndGivesInt(f)) {
        note(program.extra[i]);
      }
      program.value[i] = f;
    }
  }

  /** RUNS of a PROGRAM. */
  private static final class Runner {
    private static final int NESTED_MOST = 60;
    private static final int CALLS_MOST = 5000;
    private static final int CONSES_MOST = 500;
    // of each of 60 CALLS its 4 ARGUMENTS, and 6 for each of 30 OPEN E: three ahead of signs, three of a CALL
    private static final int STACK_MOST = 12000;
    // 5000 CALLS, none of which does one thing of the CODE twice
    private static final int TICKS_MOST = 50000000;
    private Program program = null;
    // a list is the number of its cell, 0 nil; an act that of its FUNCTION
    private final int[] heads = new int[CONSES_MOST + 1];
    private final int[] tails = new int[CONSES_MOST + 1];
    private final int[] stack = new int[STACK_MOST];
    private int height;
    // of each open CALL: where its ARGUMENTS begin, where the caller goes on
    private final int[] frames = new int[2 * NESTED_MOST];
    private int nested;
    private int base;
    private int next;
    private int conses = 0;
    private int calls = 0;
    private int deepest = 0;
    private int error = 0;
    private int given = 0;

    private void start(Program rows, int f, long[] arguments) {
      program = rows;
      height = 0;
      nested = 0;
      conses = 0;
      calls = 0;
      deepest = 0;
      error = 0;
      for (int k = 0; k < program.takes[f] && k < arguments.length; k++) {
        push((int) arguments[k]);
      }
      enter(f, 0);
      for (int tick = 0; tick < TICKS_MOST && nested > 0 && error == 0 && next < program.length; tick++) {
        next++;
        step(program.op[next - 1], program.value[next - 1]);
      }
      given = error == 0 ? pop() : 0;
    }

    private void push(int value) {
      if (height < STACK_MOST) {
        stack[height] = value;
        height++;
      }
    }

    private int pop() {
      if (height <= 0) {
        return 0;
      }
      height--;
      return stack[height];
    }

    private int standing(int slot) {
      return slot >= 0 && slot < height ? stack[slot] : 0;
    }

    private void enter(int f, int back) {
      if (nested >= NESTED_MOST) {
        error = 3;
        return;
      }
      if (calls >= CALLS_MOST) {
        error = 4;
        return;
      }
      calls++;
      base = height - program.takes[f];
      frames[2 * nested] = base;
      frames[2 * nested + 1] = back;
      nested++;
      deepest = Math.max(deepest, nested);
      next = program.starts[f];
    }

    private void leave() {
      int value = pop();
      nested--;
      height = frames[2 * nested];
      next = frames[2 * nested + 1];
      base = nested > 0 ? frames[2 * nested - 2] : 0;
      push(value);
    }

    private void step(int op, long value) {
      if (op >= Program.OPERATORS) {
        operate(op);
        return;
      }
      switch (op) {
        case Program.NUMBER:
        case Program.ACT_OF:
          push((int) value);
          break;
        case Program.NAME:
          push(standing(base + (int) value));
          break;
        case Program.CALL:
          enter((int) value, next);
          break;
        case Program.NIL:
          push(0);
          break;
        case Program.CONS:
          cons();
          break;
        case Program.DO:
          int taken = pop();
          int act = pop();
          push(taken);
          enter(act, next);
          break;
        case Program.NEGATE:
          push(-pop());
          break;
        case Program.GIVE:
          leave();
          break;
        default:
          goOn(op, (int) value);
          break;
      }
    }

    /** What chooses or ends parts; the rest is there for the Checker alone. */
    private void goOn(int op, int value) {
      switch (op) {
        case Program.UNLESS:
          next = pop() == 0 ? value : next;
          break;
        case Program.SKIP:
          next = value;
          break;
        case Program.MATCH:
          int list = pop();
          if (list > 0 && list <= conses) {
            push(heads[list]);
            push(tails[list]);
            next = value;
          }
          break;
        case Program.UNBIND:
          int kept = pop();
          height = Math.max(0, height - value);
          push(kept);
          break;
        default:
          break;
      }
    }

    private void cons() {
      int tail = pop();
      int head = pop();
      if (conses >= CONSES_MOST) {
        error = 2;
        return;
      }
      conses++;
      heads[conses] = head;
      tails[conses] = tail;
      push(conses);
    }

    private void operate(int op) {
      int right = pop();
      int left = pop();
      switch (op) {
        case '+':
          push(left + right);
          break;
        case '-':
          push(left - right);
          break;
        case '*':
          push(left * right);
          break;
        case '<':
          push(left < right ? 1 : 0);
          break;
        case Program.EQUAL:
          push(left == right ? 1 : 0);
          break;
        default:
          divide(op, left, right);
          break;
      }
    }

    private void divide(int op, int left, int right) {
      if (right == 0) {
        error = 1;
      } else if (right == -1) {
        push(op == '/' ? -left : 0);
      } else {
        push(op == '/' ? left / right : left % right);
      }
    }
  }
}
