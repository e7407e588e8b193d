import java.util.Arrays;

/** Promises 3 and 4: READING of a MODULE, where it ends and why. */
public final class ReadingTest {
  private static final int MALFORMED = -1;
  private static final int REFUSED = -2;
  private static final int CONTENT = Raw.CONTENT;

  public static void main(String[] args) {
    Due due = Due.begin();
    header(due);
    sections(due);
    names(due);
    vecs(due);
    types(due);
    limits(due);
    globals(due);
    exports(due);
    elements(due);
    codes(due);
    locals(due);
    firstBytes(due);
    structure(due);
    operands(due);
    unsignedNumbers(due);
    signedNumbers(due);
    places(due);
    greatest(due);
    due.end("ReadingTest");
  }

  private static byte[] after(int... numbers) {
    return Raw.after(numbers);
  }

  private static byte[] only(int id, int... content) {
    return Raw.only(id, content);
  }

  private static byte[] code(int... content) {
    return Raw.code(content);
  }

  private static void codeFault(Due due, String what, byte[] content, int answer, int place) {
    Raw.codeIs(due, what, content, answer, place);
  }

  private static void header(Due due) {
    byte[] whole = Due.header();
    due.module("header alone", whole, 1, -1);
    for (int k = 0; k < 8; k++) {
      byte[] wrong = whole.clone();
      wrong[k] = (byte) (wrong[k] ^ 128);
      due.module("header's byte " + k, wrong, MALFORMED, k);
      due.module("header of " + k, Arrays.copyOf(whole, k), MALFORMED, k);
    }
  }

  private static void sections(Due due) {
    for (int id = 12; id < 256; id++) {
      due.module("id " + id, after(id, 0), MALFORMED, 8);
    }
    for (int id : new int[] {2, 8, 11}) {
      due.module("id " + id, after(id), REFUSED, 8);
      due.module("id " + id + " behind 10", after(10, 1, 0, id), REFUSED, 11);
    }
    for (int id : new int[] {1, 3, 4, 5, 6, 7, 9, 10}) {
      due.module("an empty one, id " + id, after(id, 1, 0), 1, -1);
      due.module("id twice " + id, after(id, 1, 0, id, 1, 0), MALFORMED, 11);
      due.module("no size, id " + id, after(id), MALFORMED, 9);
      due.module("without a VEC, id " + id, after(id, 0), MALFORMED, 10);
      due.module("too many bytes, id " + id, after(id, 3, 0, 0, 0), MALFORMED, 11);
      due.module("size beyond, id " + id, after(id, 2, 0), MALFORMED, 9);
    }
    due.module("falling ids", after(3, 1, 0, 1, 1, 0), MALFORMED, 11);
    due.module("rising ids", after(1, 1, 0, 3, 1, 0, 4, 1, 0, 5, 1, 0, 6, 1, 0, 7, 1, 0, 9, 1, 0, 10, 1, 0), 1, -1);
    due.module("size of five bytes", after(1, 0x81, 0x80, 0x80, 0x80, 0, 0), 1, -1);
    due.module("size of six bytes", after(1, 0x81, 0x80, 0x80, 0x80, 0x80, 0, 0), MALFORMED, 9);
    due.module("size cut off", after(1, 0x81, 0x80), MALFORMED, 9);
    due.module("greatest size", after(1, 0xFF, 0xFF, 0xFF, 0xFF, 15, 0), MALFORMED, 9);
    due.module("3 without 10", after(1, 4, 1, 96, 0, 0, 3, 2, 1, 0), MALFORMED, 18);
    due.module("10 without 3", after(10, 4, 1, 2, 0, 11), MALFORMED, 14);
    due.module("the end's fault is the last", after(3, 2, 1, 0, 2), REFUSED, 12);
    due.module("the first fault counts", after(4, 2, 1, 111, 2), MALFORMED, 11);
  }

  private static void names(Due due) {
    due.module("a name", after(0, 3, 2, 255, 0), 1, -1);
    due.module("names", after(0, 1, 0, 1, 1, 0, 0, 2, 0, 9, 0, 2, 1, 7, 3, 1, 0, 0, 1, 0), 1, -1);
    due.module("no name", after(0, 0), MALFORMED, 10);
    due.module("a name beyond", after(0, 3, 3, 65, 66, 0, 1, 0), MALFORMED, 13);
    due.module("a name beyond the TEXT", after(0, 3, 3, 65, 66), MALFORMED, 13);
    due.module("a name's number", after(0, 1, 0x80), MALFORMED, 10);
    due.module("a name's number of five bytes", after(0, 6, 0x80, 0x80, 0x80, 0x80, 16, 0), MALFORMED, 10);
    byte[] longName = new byte[300];
    longName[0] = (byte) (298 & 127 | 128);
    longName[1] = 2;
    due.module("a long name", Due.join(Due.header(), Due.section(0, longName)), 1, -1);
  }

  private static void vecs(Due due) {
    for (int id : new int[] {1, 3, 4, 5, 6, 7, 9, 10}) {
      due.module("61 things, id " + id, only(id, 61), REFUSED, CONTENT);
      due.module("many things, id " + id, only(id, 0xFF, 0xFF, 0xFF, 0xFF, 15), REFUSED, CONTENT);
      due.module("60 things, none there, id " + id, only(id, 60), MALFORMED, CONTENT + 1);
      due.module("no LEB, id " + id, only(id, 0xFF, 0xFF, 0xFF, 0xFF, 16), MALFORMED, CONTENT);
    }
    byte[][] sixty = new byte[60][];
    Arrays.fill(sixty, Due.type(0));
    due.module("60 TYPES", Due.join(Due.header(), Due.section(1, Due.vec(sixty))), 1, -1);
    due.module("61 ARGUMENTS", only(1, 1, 96, 61), REFUSED, CONTENT + 2);
    byte[] takes = new byte[60];
    Arrays.fill(takes, (byte) 126);
    due.module("60 ARGUMENTS", Due.join(Due.header(),
        Due.section(1, Due.join(Due.bytes(1, 96, 60), takes, Due.bytes(0)))), 1, -1);
    due.module("61 LOCALS", code(61), REFUSED, 22);
    due.module("61 FUNCTIONS of an ELEMENT", only(9, 1, 0, 65, 0, 11, 61), REFUSED, CONTENT + 5);
    codeFault(due, "61 labels", Due.bytes(0, 65, 0, 14, 61), REFUSED, 4);
    byte[] labels = new byte[62];
    codeFault(due, "60 labels", Due.join(Due.bytes(0, 65, 0, 14, 60), Arrays.copyOf(labels, 61), Due.bytes(11)), 1, -1);
    byte[] name = new byte[61];
    due.module("a name of 61", Due.join(Due.header(), Due.section(5, Due.bytes(1, 0, 0)),
        Due.section(7, Due.join(Due.bytes(1, 61), name, Due.bytes(2, 0)))), 1, -1);
  }

  private static void types(Due due) {
    due.module("a TYPE", only(1, 1, 96, 2, 127, 126, 1, 126), 1, -1);
    due.module("no 96", only(1, 1, 95, 0, 0), MALFORMED, CONTENT + 1);
    for (int type = 0; type < 256; type++) {
      int answer = type == 124 || type == 125 ? REFUSED : type == 126 || type == 127 ? 1 : MALFORMED;
      due.module("takes " + type, only(1, 1, 96, 1, type, 0), answer, answer == 1 ? -1 : CONTENT + 3);
      due.module("gives " + type, only(1, 1, 96, 0, 1, type), answer, answer == 1 ? -1 : CONTENT + 4);
    }
    due.module("gives two", only(1, 1, 96, 0, 2, 127, 127), MALFORMED, CONTENT + 3);
    due.module("gives 60", only(1, 1, 96, 0, 60), MALFORMED, CONTENT + 3);
    due.module("gives 61", only(1, 1, 96, 0, 61), REFUSED, CONTENT + 3);
    due.module("gives the end", only(1, 1, 96, 0), MALFORMED, CONTENT + 3);
    due.module("takes the end", only(1, 1, 96, 2, 127), MALFORMED, CONTENT + 4);
    due.module("TYPE number cut off", only(3, 1, 0x80), MALFORMED, CONTENT + 1);
  }

  private static void limits(Due due) {
    due.module("a TABLE", only(4, 1, 112, 0, 3), 1, -1);
    due.module("a TABLE with most", only(4, 1, 112, 1, 3, 4), 1, -1);
    due.module("not 112", only(4, 1, 111, 0, 3), MALFORMED, CONTENT + 1);
    due.module("a TABLE's 2", only(4, 1, 112, 2, 3), MALFORMED, CONTENT + 2);
    due.module("a TABLE's end", only(4, 1, 112), MALFORMED, CONTENT + 2);
    due.module("a TABLE's most is cut off", only(4, 1, 112, 1, 3), MALFORMED, CONTENT + 4);
    due.module("a MEMORY's 2", only(5, 1, 2, 1, 1), MALFORMED, CONTENT + 1);
    due.module("a MEMORY's least is cut off", only(5, 1, 0, 0x81), MALFORMED, CONTENT + 2);
    due.module("a MEMORY's byte too many", only(5, 1, 0, 1, 1), MALFORMED, CONTENT + 3);
    due.module("READING goes on with two", only(5, 2, 0, 1, 3), MALFORMED, CONTENT + 3);
  }

  private static void globals(Due due) {
    due.module("i32", only(6, 1, 127, 0, 65, 0, 11), 1, -1);
    due.module("i64", only(6, 1, 126, 1, 66, 0x7F, 11), 1, -1);
    due.module("f32", only(6, 1, 125, 0, 67), REFUSED, CONTENT + 1);
    due.module("no VALUE TYPE", only(6, 1, 64, 0, 65, 0, 11), MALFORMED, CONTENT + 1);
    due.module("2", only(6, 1, 127, 2, 65, 0, 11), MALFORMED, CONTENT + 2);
    due.module("no 11", only(6, 1, 127, 0, 65, 0, 12), MALFORMED, CONTENT + 5);
    due.module("end for 11", only(6, 1, 127, 0, 65, 0), MALFORMED, CONTENT + 5);
    due.module("a GLOBAL told by one", only(6, 1, 127, 0, 35, 0, 11), -3, -1);
    due.module("a GLOBAL's number is u32", only(6, 1, 127, 0, 35, 0x80, 0x80, 0x80, 0x80, 0x80, 0, 11), MALFORMED,
        CONTENT + 4);
    due.module("a GLOBAL's number with 15", only(6, 1, 127, 0, 35, 0xFF, 0xFF, 0xFF, 0xFF, 15, 11), -3, -1);
    due.module("the second's 2", only(6, 2, 127, 1, 65, 0, 11, 126, 2, 66, 0, 11), MALFORMED, CONTENT + 7);
    due.module("the second's 1", only(6, 2, 127, 0, 65, 0, 11, 126, 1, 66, 0, 11), 1, -1);
    due.module("s32 too long", only(6, 1, 127, 0, 65, 0x80, 0x80, 0x80, 0x80, 8, 11), MALFORMED, CONTENT + 4);
    due.module("s64 of ten bytes",
        only(6, 1, 126, 0, 66, 0x80, 0x80, 0x80, 0x80, 0x80, 0x80, 0x80, 0x80, 0x80, 0x7F, 11), 1, -1);
    for (int op = 0; op < 256; op++) {
      if (op == 65 || op == 66 || op == 35) {
        continue;
      }
      int answer = isRefused(op) ? REFUSED : MALFORMED;
      due.module("told by " + op, only(6, 1, 127, 0, op, 0, 11), answer, CONTENT + 3);
      due.module("offset told by " + op, only(9, 1, 0, op, 0, 11, 0), answer, CONTENT + 2);
    }
  }

  private static void exports(Due due) {
    due.module("kind 4", only(7, 1, 1, 97, 4, 0), MALFORMED, CONTENT + 3);
    due.module("name beyond", only(7, 1, 5, 97, 4, 0), MALFORMED, CONTENT + 5);
    due.module("no kind", only(7, 1, 1, 97), MALFORMED, CONTENT + 3);
    due.module("no number", only(7, 1, 1, 97, 0), MALFORMED, CONTENT + 4);
    due.module("name's number", only(7, 1, 0x80, 0x80), MALFORMED, CONTENT + 1);
    due.module("none there", only(7, 1, 1, 97, 0, 0), -3, -1);
  }

  private static void elements(Due due) {
    due.module("TABLE 1", only(9, 1, 1, 65, 0, 11, 0), MALFORMED, CONTENT + 1);
    due.module("TABLE 0 of two bytes", only(9, 1, 0x80, 0, 65, 0, 11, 0), -3, -1);
    due.module("no offset", only(9, 1, 0), MALFORMED, CONTENT + 2);
    due.module("no FUNCTION", only(9, 1, 0, 65, 0, 11, 2, 0), MALFORMED, CONTENT + 7);
    due.module("offset without 11", only(9, 1, 0, 65, 0, 0, 0), MALFORMED, CONTENT + 4);
  }

  private static void codes(Due due) {
    due.module("a CODE", code(0, 11), 1, -1);
    due.module("more than it has", code(0, 11, 1, 11), MALFORMED, 24);
    due.module("end for 11", code(0, 1), MALFORMED, 24);
    due.module("end for LOCALS", code(), MALFORMED, 22);
    due.module("size beyond", after(1, 4, 1, 96, 0, 0, 3, 2, 1, 0, 10, 4, 1, 3, 0, 11), MALFORMED, 21);
    due.module("size cut off", after(1, 4, 1, 96, 0, 0, 3, 2, 1, 0, 10, 2, 1, 0x80), MALFORMED, 21);
    due.module("no size", after(1, 4, 1, 96, 0, 0, 3, 2, 1, 0, 10, 1, 1), MALFORMED, 21);
    due.module("one CODE too many in the SECTION",
        after(1, 4, 1, 96, 0, 0, 3, 2, 1, 0, 10, 7, 1, 2, 0, 11, 2, 0, 11), MALFORMED, 24);
    due.module("two CODES for one", after(1, 4, 1, 96, 0, 0, 3, 2, 1, 0, 10, 7, 2, 2, 0, 11, 2, 0, 11), MALFORMED, 27);
    due.module("two FUNCTIONS for one", after(1, 4, 1, 96, 0, 0, 3, 3, 2, 0, 0, 10, 4, 1, 2, 0, 11), MALFORMED, 25);
    due.module("the CODE's end, not the SECTION's",
        after(1, 4, 1, 96, 0, 0, 3, 3, 2, 0, 0, 10, 7, 2, 2, 0, 1, 2, 0, 11), MALFORMED, 25);
  }

  private static void locals(Due due) {
    codeFault(due, "50 of them", Due.bytes(2, 20, 127, 30, 126, 11), 1, -1);
    codeFault(due, "51 of them", Due.bytes(1, 51, 127, 11), REFUSED, 1);
    codeFault(due, "51 in two", Due.bytes(2, 20, 127, 31, 126, 11), REFUSED, 3);
    codeFault(due, "51 comes before its TYPE", Due.bytes(1, 51, 3, 11), REFUSED, 1);
    codeFault(due, "very many", Due.bytes(2, 1, 127, 0xFF, 0xFF, 0xFF, 0xFF, 15, 127, 11), REFUSED, 3);
    codeFault(due, "none of a TYPE, behind 50", Due.bytes(2, 50, 127, 0, 126, 11), 1, -1);
    codeFault(due, "f32", Due.bytes(1, 1, 125, 11), REFUSED, 2);
    codeFault(due, "none of f64", Due.bytes(1, 0, 124, 11), REFUSED, 2);
    codeFault(due, "no VALUE TYPE", Due.bytes(1, 1, 64, 11), MALFORMED, 2);
    codeFault(due, "cut off", Due.bytes(1, 0x81), MALFORMED, 1);
    byte[] sixty = new byte[122];
    sixty[0] = 60;
    for (int k = 1; k < 121; k += 2) {
      sixty[k + 1] = 127;
    }
    sixty[121] = 11;
    codeFault(due, "60 groups of none", sixty, 1, -1);
  }

  private static boolean in(int op, int from, int to) {
    return op >= from && op <= to;
  }

  private static boolean isRefused(int op) {
    return in(op, 42, 43) || in(op, 56, 57) || in(op, 67, 68) || in(op, 91, 102) || in(op, 139, 166)
        || in(op, 168, 171) || in(op, 174, 191);
  }

  private static boolean isKnown(int op) {
    return in(op, 0, 4) || in(op, 11, 17) || in(op, 26, 27) || in(op, 32, 36) || in(op, 40, 41)
        || in(op, 44, 55) || in(op, 58, 66) || in(op, 69, 90) || in(op, 103, 138) || op == 167
        || in(op, 172, 173);
  }

  /** Which first bytes an INSTRUCTION may have. */
  private static void firstBytes(Due due) {
    for (int op = 0; op < 256; op++) {
      FoldForge x = new FoldForge();
      byte[] module = code(0, op, 64, 0, 0, 11, 11);
      int answer = Due.module(x, module);
      if (isRefused(op)) {
        due.is("INSTRUCTION " + op, answer, REFUSED);
        due.is("INSTRUCTION " + op + ": place", x.place(), 23);
      } else if (!isKnown(op)) {
        due.is("INSTRUCTION " + op, answer, MALFORMED);
        due.is("INSTRUCTION " + op + ": place", x.place(), 23);
      } else {
        due.is("INSTRUCTION " + op + " is none of these", x.place() == 23 ? 1 : 0, 0);
      }
    }
  }

  private static byte[] nested(int op, int deep, int[] inner) {
    byte[] all = Due.bytes(0);
    for (int k = 0; k < deep; k++) {
      all = op == 4 ? Due.join(all, Due.bytes(65, 1, 4, 64)) : Due.join(all, Due.bytes(op, 64));
    }
    all = Due.join(all, Due.bytes(inner));
    for (int k = 0; k <= deep; k++) {
      all = Due.join(all, Due.bytes(11));
    }
    return all;
  }

  private static void structure(Due due) {
    for (int op = 2; op <= 4; op++) {
      codeFault(due, "20 open of " + op, nested(op, 20, new int[0]), 1, -1);
      int width = op == 4 ? 4 : 2;
      codeFault(due, "21 open of " + op, nested(op, 21, new int[0]), REFUSED, 1 + 20 * width + width - 2);
    }
    codeFault(due, "one behind another", Due.join(nested(2, 20, new int[] {11, 2, 64}), new byte[0]), 1, -1);
    codeFault(due, "within 5 it is OPEN still",
        nested(2, 19, new int[] {65, 1, 4, 64, 5, 2, 64, 11, 11}), REFUSED, 1 + 38 + 5);
    codeFault(due, "5 alone", Due.bytes(0, 5, 11), MALFORMED, 1);
    codeFault(due, "5 of a block", Due.bytes(0, 2, 64, 5, 11, 11), MALFORMED, 3);
    codeFault(due, "5 of a loop", Due.bytes(0, 3, 64, 5, 11, 11), MALFORMED, 3);
    codeFault(due, "5 of an if", Due.bytes(0, 65, 0, 4, 64, 5, 11, 11), 1, -1);
    codeFault(due, "5 twice", Due.bytes(0, 65, 0, 4, 64, 5, 5, 11, 11), MALFORMED, 6);
    codeFault(due, "5 of a block in an if", Due.bytes(0, 65, 0, 4, 64, 2, 64, 5, 11, 11, 11), MALFORMED, 7);
    codeFault(due, "block without 11", Due.bytes(0, 2, 64, 11), MALFORMED, 4);
    for (int type = 0; type < 256; type++) {
      int answer = type == 64 ? 1 : type == 124 || type == 125 ? REFUSED
          : type == 126 || type == 127 ? -3 : MALFORMED;
      int place = answer == REFUSED || answer == MALFORMED ? 2 : -1;
      codeFault(due, "BLOCK TYPE " + type, Due.bytes(0, 2, type, 11, 11), answer, place);
    }
    codeFault(due, "no BLOCK TYPE", Due.bytes(0, 3), MALFORMED, 2);
    due.module("64 stands behind the CODE",
        after(1, 4, 1, 96, 0, 0, 3, 3, 2, 0, 0, 10, 5, 2, 2, 0, 2, 64), MALFORMED, 25);
    due.module("11 stands behind the CODE",
        after(1, 4, 1, 96, 0, 0, 3, 3, 2, 0, 0, 10, 5, 2, 2, 0, 1, 11), MALFORMED, 25);
  }

  private static void operands(Due due) {
    codeFault(due, "call_indirect's 0", Due.bytes(0, 17, 0, 1, 11), MALFORMED, 3);
    codeFault(due, "call_indirect's 0 is a byte", Due.bytes(0, 17, 0, 0x80, 0, 11), MALFORMED, 3);
    codeFault(due, "memory size's 0", Due.bytes(0, 63, 1, 11), MALFORMED, 2);
    codeFault(due, "memory grow's 0", Due.bytes(0, 64, 1, 11), MALFORMED, 2);
    codeFault(due, "memory grow's 0 is a byte", Due.bytes(0, 64, 0x80, 0, 11), MALFORMED, 2);
    for (int op : new int[] {12, 13, 16, 32, 33, 34, 35, 36}) {
      codeFault(due, "cut off: " + op, Due.bytes(0, op, 0x80), MALFORMED, 2);
      codeFault(due, "too great: " + op, Due.bytes(0, op, 0xFF, 0xFF, 0xFF, 0xFF, 16, 11), MALFORMED, 2);
      codeFault(due, "none such: " + op, Due.bytes(0, op, 0xFF, 0xFF, 0xFF, 0xFF, 15, 11), -3, -1);
    }
    codeFault(due, "call_indirect's TYPE", Due.bytes(0, 17, 0x80), MALFORMED, 2);
    codeFault(due, "ALIGN", Due.bytes(0, 40, 0x80), MALFORMED, 2);
    codeFault(due, "OFFSET", Due.bytes(0, 40, 2, 0x80), MALFORMED, 3);
    codeFault(due, "no OFFSET", Due.bytes(0, 40, 2), MALFORMED, 3);
    codeFault(due, "a label", Due.bytes(0, 14, 2, 0, 0x80), MALFORMED, 4);
    codeFault(due, "no default", Due.bytes(0, 14, 1, 0), MALFORMED, 4);
    codeFault(due, "the CODE's end cuts a number off", Due.bytes(0, 65, 0x80), MALFORMED, 2);
  }

  private static void unsignedNumbers(Due due) {
    due.module("15 in the fifth", only(5, 1, 0, 0xFF, 0xFF, 0xFF, 0xFF, 15), REFUSED, -1);
    due.module("0 in five", only(5, 1, 0, 0x80, 0x80, 0x80, 0x80, 0), 1, -1);
    due.module("16 in the fifth", only(5, 1, 0, 0x80, 0x80, 0x80, 0x80, 16), MALFORMED, CONTENT + 2);
    due.module("0x80 in the fifth", only(5, 1, 0, 0x80, 0x80, 0x80, 0x80, 0x80, 0), MALFORMED, CONTENT + 2);
    due.module("127 in the fourth", only(5, 1, 0, 0x80, 0x80, 0x80, 0x7F), REFUSED, -1);
  }

  private static byte[] number(int op, int many, int last) {
    byte[] bytes = new byte[many + 3];
    bytes[1] = (byte) op;
    Arrays.fill(bytes, 2, many + 1, (byte) 0x80);
    bytes[many + 1] = (byte) last;
    bytes[many + 2] = 26;
    return Due.join(bytes, Due.bytes(11));
  }

  private static void signedNumbers(Due due) {
    for (int last = 0; last < 256; last++) {
      boolean s32 = last < 8 || last >= 0x78 && last < 0x80;
      codeFault(due, "s32's fifth " + last, number(65, 5, last), s32 ? 1 : MALFORMED, s32 ? -1 : 2);
      boolean s64 = last == 0 || last == 0x7F;
      codeFault(due, "s64's tenth " + last, number(66, 10, last), s64 ? 1 : MALFORMED, s64 ? -1 : 2);
    }
    codeFault(due, "s64's fifth", number(66, 5, 0x3F), 1, -1);
    codeFault(due, "s64's ninth", number(66, 9, 0x5A), 1, -1);
  }

  /** What place() tells once other calls have been made. */
  private static void places(Due due) {
    FoldForge x = new FoldForge();
    due.is("module", Due.module(x, after(12)), MALFORMED);
    due.is("place", x.place(), 8);
    due.is("no such length", x.module(1), 0);
    due.is("nothing happened", x.place(), 8);
    due.is("program", Due.program(x, "fun"), -4);
    due.is("a PROGRAM is no MODULE", x.place(), 8);
    due.is("module", Due.module(x, after()), 1);
    due.is("place", x.place(), -1);
    due.is("module", Due.module(x, after(2)), REFUSED);
    due.is("place", x.place(), 8);
    due.is("module", Due.module(x, only(3, 0)), 1);
    due.is("place", x.place(), -1);
    Due.feed(x, after(1, 1, 0, 12));
    due.is("the first bytes alone", x.module(11), 1);
    due.is("the tape is empty then", x.module(1), 0);
  }

  /** The most INSTRUCTIONS, values and labels for which there is room on the tape. */
  private static void greatest(Due due) {
    byte[] nops = new byte[3960];
    Arrays.fill(nops, 1, 3959, (byte) 1);
    nops[3959] = 11;
    codeFault(due, "many INSTRUCTIONS", nops, 1, -1);
    byte[] values = Due.bytes(0);
    for (int k = 0; k < 1970; k++) {
      values = Due.join(values, Due.bytes(65, 0));
    }
    codeFault(due, "many values", Due.join(values, Due.bytes(11)), -3, -1);
    codeFault(due, "many values, then unreachable", Due.join(values, Due.bytes(0, 11)), 1, -1);
    byte[] table = new byte[65];
    table[0] = 65;
    table[2] = 14;
    table[3] = 60;
    byte[] all = Due.bytes(0);
    for (int k = 0; k < 60; k++) {
      all = Due.join(all, table);
    }
    codeFault(due, "many labels", Due.join(all, Due.bytes(11)), 1, -1);
    byte[] shortOnes = Due.bytes(0);
    for (int k = 0; k < 1970; k++) {
      shortOnes = Due.join(shortOnes, Due.bytes(12, 0));
    }
    codeFault(due, "many br", Due.join(shortOnes, Due.bytes(11)), 1, -1);
  }
}
