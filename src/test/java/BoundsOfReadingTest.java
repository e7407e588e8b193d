import java.util.Arrays;

/** Promises 3 and 4: the bounds of READING, a sentence at a time; place() tells the byte at which it ended. */
public final class BoundsOfReadingTest {
  private static final int MALFORMED = -1;
  private static final int REFUSED = -2;
  private static final int INVALID = -3;
  private static final int[] IDS = {1, 3, 4, 5, 6, 7, 9, 10};
  private static final int CONTENT = Raw.CONTENT;

  public static void main(String[] args) {
    Due due = Due.begin();
    header(due);
    sectionSizes(due);
    ids(due);
    names(due);
    vec(due);
    gives(due);
    valueTypes(due);
    blockTypes(due);
    tables(due);
    limits(due);
    globals(due);
    constants(due);
    exports(due);
    elements(due);
    codes(due);
    expressions(due);
    blocks(due);
    operands(due);
    zeros(due);
    refusedSections(due);
    refusedInstructions(due);
    otherBytes(due);
    ends(due);
    tooMany(due);
    sizesBeyond(due);
    unlikeNumbers(due);
    sixtyThings(due);
    locals(due);
    open(due);
    firstFault(due);
    due.end("BoundsOfReadingTest");
  }

  private static byte[] code(int... content) {
    return Due.bytes(content);
  }

  private static void header(Due due) {
    due.sentence("A MODULE, byte by byte: 0, 97, 115, 109, 1, 0, 0, 0;");
    byte[] whole = Due.header();
    for (int k = 0; k < 8; k++) {
      due.module("its first " + k, Arrays.copyOf(whole, k), MALFORMED, k);
      for (int by : new int[] {1, -1, 128}) {
        byte[] wrong = whole.clone();
        wrong[k] += by;
        due.module("byte " + k + " is another", wrong, MALFORMED, k);
        due.module("byte " + k + " is the last, and another", Arrays.copyOf(wrong, k + 1), MALFORMED, k);
      }
    }
    due.module("all eight", whole, 1, -1);
    due.module("one more", Raw.after(1), MALFORMED, 9);
  }

  private static void sectionSizes(Due due) {
    due.sentence("then SECTIONS: an id (a byte), a size (u32), so many bytes.");
    due.module("none", Due.header(), 1, -1);
    due.module("an id alone", Raw.after(5), MALFORMED, 9);
    due.module("a size of 0", Raw.after(5, 0), MALFORMED, 10);
    due.module("a size of 0, with a byte behind", Raw.after(5, 0, 0), MALFORMED, 10);
    due.module("a byte less than told", Raw.after(5, 2, 0), MALFORMED, 9);
    due.module("as many as told", Raw.after(5, 1, 0), 1, -1);
    due.module("a byte more than told is an id", Raw.after(5, 1, 0, 6), MALFORMED, 12);
    due.module("two of them", Raw.after(5, 1, 0, 6, 1, 0), 1, -1);
  }

  private static void ids(Due due) {
    due.sentence("Ids 1 to 11 at most once, rising;");
    for (int one : IDS) {
      due.module("id " + one, Raw.after(one, 1, 0), 1, -1);
      for (int other : IDS) {
        boolean rises = other > one;
        due.module(one + ", then " + other, Raw.after(one, 1, 0, other, 1, 0), rises ? 1 : MALFORMED, rises ? -1 : 11);
        // what is between does not count, nor does a 0
        due.module(one + ", 0, then " + other, Raw.after(one, 1, 0, 0, 1, 0, other, 1, 0), rises ? 1 : MALFORMED,
            rises ? -1 : 14);
      }
    }
    for (int id = 12; id < 256; id++) {
      due.module("id " + id, Raw.after(id, 1, 0), MALFORMED, 8);
    }
  }

  private static void names(Due due) {
    due.sentence("0 (a name, that is u32 n and n bytes; then whatever there is) anywhere, as often as one likes, nothing"
        + " comes of it.");
    due.module("no name", Raw.after(0, 0), MALFORMED, 10);
    due.module("a name of 0", Raw.after(0, 1, 0), 1, -1);
    due.module("a name of 1, none there", Raw.after(0, 1, 1), MALFORMED, 11);
    due.module("a name of 1, behind the SECTION", Raw.after(0, 1, 1, 0, 1, 0), MALFORMED, 11);
    due.module("a name of 1", Raw.after(0, 2, 1, 65), 1, -1);
    due.module("a name of 2, one there", Raw.after(0, 2, 2, 65), MALFORMED, 12);
    due.module("a name of 2", Raw.after(0, 3, 2, 255, 128), 1, -1);
    due.module("whatever there is", Raw.after(0, 5, 1, 65, 2, 255, 0), 1, -1);
    byte[] none = Due.bytes(0, 2, 0, 11);
    byte[] all = Due.join(Due.header(), none, none);
    for (int id : IDS) {
      all = Due.join(all, Due.bytes(id, 1, 0), none, none);
    }
    FoldForge x = new FoldForge();
    due.is("everywhere", Due.module(x, all), 1);
    for (int what = 0; what < 6; what++) {
      due.is("nothing comes of it", x.count(what), what == 2 || what == 3 ? -1 : 0);
    }
    byte[] many = Due.header();
    for (int k = 0; k < 1330; k++) {
      many = Due.join(many, Due.bytes(0, 1, 0));
    }
    due.module("1330 of them", many, 1, -1);
    due.module("1330 of them, then an ill one", Due.join(many, Due.bytes(0)), MALFORMED, many.length + 1);
  }

  private static byte[] thing(int id) {
    switch (id) {
      case 1: return Due.bytes(96, 0, 0);
      case 3: return Due.bytes(0);
      case 4: return Due.bytes(112, 0, 1);
      case 5: return Due.bytes(0, 1);
      case 6: return Due.bytes(127, 0, 65, 0, 11);
      case 7: return Due.bytes(1, 65, 2, 0);
      case 9: return Due.bytes(0, 65, 0, 11, 0);
      default: return Due.bytes(2, 0, 11);
    }
  }

  private static byte[] things(int id, int told, int there) {
    byte[] all = Due.unsigned(told);
    for (int k = 0; k < there; k++) {
      all = Due.join(all, thing(id));
    }
    return Raw.only(id, all);
  }

  private static void vec(Due due) {
    due.sentence("VEC: u32 n, then n things.");
    for (int id : IDS) {
      for (int n = 0; n < 5; n++) {
        String what = n + " things, id " + id;
        // of 3 and 10 there is one alone: that is told at the end
        boolean alone = id == 3 || id == 10;
        byte[] just = things(id, n, n);
        FoldForge x = new FoldForge();
        int answer = Due.module(x, just);
        due.is(what, answer == MALFORMED && !(alone && n > 0) || answer == REFUSED ? 1 : 0, 0);
        due.is(what + ": place", x.place(), alone && n > 0 ? just.length : -1);
        due.module(what + ", one more there", things(id, n, n + 1), MALFORMED, just.length);
        if (n > 0) {
          byte[] less = things(id, n, n - 1);
          due.module(what + ", one less there", less, MALFORMED, less.length);
        }
      }
    }
  }

  private static void gives(Due due) {
    due.sentence("(2 to 60 of them: MALFORMED at its n)");
    due.module("none", Raw.only(1, 1, 96, 0, 0), 1, -1);
    due.module("one", Raw.only(1, 1, 96, 0, 1, 127), 1, -1);
    for (int n = 2; n <= 60; n++) {
      byte[] content = Due.join(Due.bytes(1, 96, 0, n), Raw.times(n, 127));
      due.module(n + " of them", Raw.only(1, content), MALFORMED, CONTENT + 3);
    }
    due.module("61 of them", Raw.only(1, Due.join(Due.bytes(1, 96, 0, 61), Raw.times(61, 127))), REFUSED, CONTENT + 3);
    due.module("2 in two bytes", Raw.only(1, 1, 96, 0, 0x82, 0, 127, 127), MALFORMED, CONTENT + 3);
  }

  private static void valueTypes(Due due) {
    due.sentence("a VALUE TYPE 124 or 125;");
    for (int type = 0; type < 256; type++) {
      boolean is = type == 126 || type == 127;
      int answer = is ? 1 : type == 124 || type == 125 ? REFUSED : MALFORMED;
      due.module("an ARGUMENT " + type, Raw.only(1, 1, 96, 1, type, 0), answer, is ? -1 : CONTENT + 3);
      due.module("the last ARGUMENT " + type, Raw.only(1, 1, 96, 2, 127, type, 0), answer, is ? -1 : CONTENT + 4);
      due.module("given " + type, Raw.only(1, 1, 96, 0, 1, type), answer, is ? -1 : CONTENT + 4);
      int told = type == 126 ? 66 : 65;
      due.module("a GLOBAL " + type, Raw.only(6, 1, type, 0, told, 0, 11), answer, is ? -1 : CONTENT + 1);
      Raw.codeIs(due, "a LOCAL " + type, code(1, 1, type, 11), answer, is ? -1 : 2);
      Raw.codeIs(due, "no LOCALS " + type, code(1, 0, type, 11), answer, is ? -1 : 2);
    }
  }

  private static void blockTypes(Due due) {
    due.sentence("a BLOCK TYPE (64: none; or a VALUE TYPE)");
    for (int type = 0; type < 256; type++) {
      boolean may = type == 64 || type == 126 || type == 127;
      int answer = may ? 1 : type == 124 || type == 125 ? REFUSED : MALFORMED;
      for (int op = 2; op <= 4; op++) {
        byte[] inner = op == 4 ? code(0, 5, 0) : code(0);
        byte[] block = Due.join(code(0, 0, op, type), inner, code(11, 0, 11));
        Raw.codeIs(due, op + " of " + type, block, answer, may ? -1 : 3);
      }
    }
    for (int op = 2; op <= 4; op++) {
      Raw.codeIs(due, op + " of none there", code(0, 0, op), MALFORMED, 3);
    }
  }

  private static void tables(Due due) {
    due.sentence("4 VEC of TABLES: 112, LIMITS.");
    for (int b = 0; b < 256; b++) {
      due.module("begins with " + b, Raw.only(4, 1, b, 0, 1), b == 112 ? 1 : MALFORMED, b == 112 ? -1 : CONTENT + 1);
    }
  }

  private static void limits(Due due) {
    due.sentence("LIMITS: 0, least (u32); or 1, least, most (u32 both).");
    for (int b = 0; b < 256; b++) {
      int answer = b < 2 ? 1 : MALFORMED;
      byte[] memory = b == 0 ? Due.bytes(1, b, 1) : Due.bytes(1, b, 1, 2);
      due.module("a MEMORY's " + b, Raw.only(5, memory), answer, b < 2 ? -1 : CONTENT + 1);
      byte[] table = b == 0 ? Due.bytes(1, 112, b, 1) : Due.bytes(1, 112, b, 1, 2);
      due.module("a TABLE's " + b, Raw.only(4, table), answer, b < 2 ? -1 : CONTENT + 2);
    }
    due.module("0 with most", Raw.only(5, 1, 0, 1, 2), MALFORMED, CONTENT + 3);
    due.module("1 without most", Raw.only(5, 1, 1, 1), MALFORMED, CONTENT + 3);
    due.module("0 without least", Raw.only(5, 1, 0), MALFORMED, CONTENT + 2);
    due.module("1 with one too many", Raw.only(5, 1, 1, 1, 2, 2), MALFORMED, CONTENT + 4);
  }

  private static void globals(Due due) {
    due.sentence("6 VEC of GLOBALS: a VALUE TYPE, 0 or 1 (it may be set), a CONSTANT EXPRESSION");
    for (int b = 0; b < 256; b++) {
      due.module("its " + b, Raw.only(6, 1, 127, b, 65, 0, 11), b < 2 ? 1 : MALFORMED, b < 2 ? -1 : CONTENT + 2);
    }
    // 0: it may not be set, 1: it may be
    for (int b = 0; b < 2; b++) {
      byte[] sets = new Built().type(0).function(0, 65, 0, 36, 0).global(127, b, 65, 0).bytes();
      due.module("set of a " + b, sets, b == 1 ? 1 : INVALID, -1);
    }
  }

  private static void constants(Due due) {
    due.sentence("65 s32 or 66 s64 or 35 u32 (a GLOBAL), then 11.");
    for (int op = 0; op < 256; op++) {
      boolean is = op == 65 || op == 66 || op == 35;
      int answer = op == 65 ? 1 : is ? INVALID : isRefused(op) ? REFUSED : MALFORMED;
      due.module("a GLOBAL's " + op, Raw.only(6, 1, 127, 0, op, 0, 11), answer, is ? -1 : CONTENT + 3);
      int offset = is ? INVALID : answer;
      due.module("an ELEMENT's " + op, Raw.only(9, 1, 0, op, 0, 11, 0), offset, is ? -1 : CONTENT + 2);
      int last = op == 11 ? 1 : MALFORMED;
      due.module("a GLOBAL's last " + op, Raw.only(6, 1, 127, 0, 65, 0, op), last, op == 11 ? -1 : CONTENT + 5);
      last = op == 11 ? INVALID : MALFORMED;
      due.module("an ELEMENT's last " + op, Raw.only(9, 1, 0, 65, 0, op, 0), last, op == 11 ? -1 : CONTENT + 4);
    }
    due.module("two of them", Raw.only(6, 1, 127, 0, 65, 0, 65, 0, 11), MALFORMED, CONTENT + 5);
    due.module("none", Raw.only(6, 1, 127, 0, 11), MALFORMED, CONTENT + 3);
    due.module("11 at the end", Raw.only(6, 1, 127, 0, 65, 0), MALFORMED, CONTENT + 5);
    due.module("11 behind the end", Raw.after(6, 5, 1, 127, 0, 65, 0, 11), MALFORMED, CONTENT + 5);
  }

  private static void exports(Due due) {
    due.sentence("7 VEC of EXPORTS: a name, 0 to 3 (FUNCTION, TABLE, MEMORY, GLOBAL), u32.");
    byte[] rest = Due.bytes(3, 2, 1, 0, 4, 4, 1, 112, 0, 1, 5, 3, 1, 0, 1, 6, 6, 1, 127, 0, 65, 0, 11);
    byte[] ahead = Due.join(Due.header(), Due.bytes(1, 4, 1, 96, 0, 0), rest);
    for (int kind = 0; kind < 256; kind++) {
      byte[] module = Due.join(ahead, Due.bytes(7, 4, 1, 0, kind, 0, 10, 4, 1, 2, 0, 11));
      due.module("kind " + kind, module, kind < 4 ? 1 : MALFORMED, kind < 4 ? -1 : ahead.length + 4);
    }
    due.module("a name of 0", Raw.only(7, 1, 0, 4), MALFORMED, CONTENT + 2);
    due.module("a name of 3, all that is left", Raw.only(7, 1, 3, 65, 66, 67), MALFORMED, CONTENT + 5);
    due.module("a name of 3, more than is left", Raw.only(7, 1, 3, 65, 66), MALFORMED, CONTENT + 4);
    due.module("a name to the SECTION's end, not the TEXT's", Raw.after(7, 4, 1, 3, 65, 66, 67, 0, 0), MALFORMED,
        CONTENT + 4);
  }

  private static void elements(Due due) {
    due.sentence("9 VEC of ELEMENTS: 0 (u32), a CONSTANT EXPRESSION, VEC of FUNCTION numbers.");
    for (int b = 0; b < 128; b++) {
      due.module("begins with " + b, Raw.only(9, 1, b, 65, 0, 11, 0), b == 0 ? INVALID : MALFORMED,
          b == 0 ? -1 : CONTENT + 1);
    }
    due.module("0 in two", Raw.only(9, 1, 0x80, 0, 65, 0, 11, 0), INVALID, -1);
    due.module("128 in two", Raw.only(9, 1, 0x80, 1, 65, 0, 11, 0), MALFORMED, CONTENT + 1);
    due.module("none of FUNCTIONS", Raw.only(9, 1, 0, 65, 0, 11), MALFORMED, CONTENT + 5);
  }

  private static void codes(Due due) {
    due.sentence("10 VEC of CODES: size (u32), of so many bytes: VEC of LOCALS (u32 how many, a VALUE TYPE), an"
        + " EXPRESSION");
    byte[] ahead = Due.join(Due.header(), Due.bytes(1, 4, 1, 96, 0, 0, 3, 2, 1, 0));
    due.module("a size of 0", Due.join(ahead, Due.bytes(10, 2, 1, 0)), MALFORMED, ahead.length + 4);
    due.module("a size of 1", Due.join(ahead, Due.bytes(10, 4, 1, 1, 0, 11)), MALFORMED, ahead.length + 5);
    due.module("a size of 2", Due.join(ahead, Due.bytes(10, 4, 1, 2, 0, 11)), 1, -1);
    due.module("a size of 3", Due.join(ahead, Due.bytes(10, 4, 1, 3, 0, 11)), MALFORMED, ahead.length + 3);
    due.module("a size of 3, of the TEXT's bytes", Due.join(ahead, Due.bytes(10, 4, 1, 3, 0, 11, 0, 1, 0)), MALFORMED,
        ahead.length + 3);
    due.module("a size of 3, with 3", Due.join(ahead, Due.bytes(10, 5, 1, 3, 0, 11, 11)), MALFORMED, ahead.length + 6);
    due.module("a group without VALUE TYPE", Due.join(ahead, Due.bytes(10, 4, 1, 2, 1, 3)), MALFORMED, ahead.length + 6);
  }

  private static void expressions(Due due) {
    due.sentence("INSTRUCTIONS up to the 11 that closes it.");
    Raw.codeIs(due, "no INSTRUCTION", code(0, 11), 1, -1);
    Raw.codeIs(due, "no 11", code(0), MALFORMED, 1);
    Raw.codeIs(due, "an INSTRUCTION, no 11", code(0, 1), MALFORMED, 2);
    Raw.codeIs(due, "behind the 11", code(0, 11, 11), MALFORMED, 2);
    Raw.codeIs(due, "a block's 11 alone", code(0, 2, 64, 11), MALFORMED, 4);
    Raw.codeIs(due, "both 11", code(0, 2, 64, 11, 11), 1, -1);
    Raw.codeIs(due, "an 11 more", code(0, 2, 64, 11, 11, 11), MALFORMED, 5);
    Raw.codeIs(due, "3966 INSTRUCTIONS", Due.join(code(0), Raw.times(3966, 1), code(11)), 1, -1);
    Raw.codeIs(due, "3966 INSTRUCTIONS, no 11", Due.join(code(0), Raw.times(3966, 1)), MALFORMED, 3967);
  }

  private static void blocks(Due due) {
    due.sentence("INSTRUCTIONS, of if perhaps 5 and INSTRUCTIONS, 11.");
    Raw.codeIs(due, "an if", code(0, 0, 4, 64, 11, 11), 1, -1);
    Raw.codeIs(due, "an if with 5", code(0, 0, 4, 64, 5, 11, 11), 1, -1);
    Raw.codeIs(due, "an if with 5 twice", code(0, 0, 4, 64, 5, 5, 11, 11), MALFORMED, 5);
    Raw.codeIs(due, "an if with 5, without 11", code(0, 0, 4, 64, 5, 11), MALFORMED, 6);
    Raw.codeIs(due, "a block with 5", code(0, 2, 64, 5, 11, 11), MALFORMED, 3);
    Raw.codeIs(due, "a loop with 5", code(0, 3, 64, 5, 11, 11), MALFORMED, 3);
    Raw.codeIs(due, "5 alone", code(0, 5, 11), MALFORMED, 1);
    Raw.codeIs(due, "5 behind an if", code(0, 0, 4, 64, 11, 5, 11), MALFORMED, 5);
    Raw.codeIs(due, "5 of the outer if, behind the inner", code(0, 0, 4, 64, 0, 4, 64, 11, 5, 11, 11), 1, -1);
    Raw.codeIs(due, "5 of the outer and the inner", code(0, 0, 4, 64, 0, 4, 64, 5, 11, 5, 11, 11), 1, -1);
    Raw.codeIs(due, "5 twice of the outer", code(0, 0, 4, 64, 5, 0, 4, 64, 5, 11, 5, 11, 11), MALFORMED, 10);
    Raw.codeIs(due, "5 of a block in an if", code(0, 0, 4, 64, 2, 64, 5, 11, 11, 11), MALFORMED, 6);
    Raw.codeIs(due, "5 behind a block in an if", code(0, 0, 4, 64, 2, 64, 11, 5, 11, 11), 1, -1);
  }

  /** How many bytes come behind an INSTRUCTION's first, each of which may be 0; -1: it is none. */
  private static int operandsOf(int op) {
    boolean alone = op < 2 || op == 15 || op == 26 || op == 27 || op >= 69 && op <= 90 || op >= 103 && op <= 138
        || op == 167 || op == 172 || op == 173;
    if (alone) {
      return 0;
    }
    if (op == 12 || op == 13 || op == 16 || op >= 32 && op <= 36 || op >= 63 && op <= 66) {
      return 1;
    }
    boolean two = op == 14 || op == 17 || op == 40 || op == 41 || op >= 44 && op <= 55 || op >= 58 && op <= 62;
    return two ? 2 : -1;
  }

  private static void operands(Due due) {
    due.sentence("INSTRUCTIONS, by their first byte: 0 unreachable, 1 nop; 2 block, 3 loop, 4 if");
    for (int op = 0; op < 256; op++) {
      if (op >= 2 && op <= 5 || op == 11) {
        continue;
      }
      int many = operandsOf(op);
      if (many < 0) {
        Raw.codeIs(due, "none is " + op, code(0, op, 11), isRefused(op) ? REFUSED : MALFORMED, 1);
        continue;
      }
      byte[] whole = Due.join(code(0, op), new byte[many]);
      FoldForge x = new FoldForge();
      int answer = Due.module(x, Raw.code(Due.join(whole, code(11))));
      due.is(op + " with " + many, answer == 1 || answer == INVALID ? 1 : 0, 1);
      for (int less = 0; less < many; less++) {
        Raw.codeIs(due, op + " with " + less, Due.join(code(0, op), new byte[less]), MALFORMED, 2 + less);
      }
      Raw.codeIs(due, op + " and no 11", whole, MALFORMED, 2 + many);
      Raw.codeIs(due, op + ", then none", Due.join(whole, code(6, 11)), MALFORMED, 2 + many);
    }
    for (int op = 2; op <= 4; op++) {
      Raw.codeIs(due, op + " without BLOCK TYPE", code(0, op), MALFORMED, 2);
      Raw.codeIs(due, op + " with it", code(0, 0, op, 64, 11, 11), 1, -1);
      Raw.codeIs(due, op + " without 11", code(0, op, 64), MALFORMED, 3);
    }
    for (int labels = 0; labels < 4; labels++) {
      byte[] some = Due.join(code(0, 0, 14, labels), new byte[labels]);
      Raw.codeIs(due, labels + " labels, none last", some, MALFORMED, 4 + labels);
      Raw.codeIs(due, labels + " labels", Due.join(some, code(0, 11)), 1, -1);
    }
  }

  private static void zeros(Due due) {
    due.sentence("17 call_indirect u32, 0.");
    byte[] module = new Built().type(0).function(0, 65, 0, 17, 0, 0).table(0).bytes();
    due.module("0", module, 1, -1);
    for (int b = 1; b < 256; b++) {
      byte[] other = module.clone();
      other[module.length - 2] = (byte) b;
      due.module("call_indirect's " + b, other, MALFORMED, module.length - 2);
    }
    due.sentence("63 memory size, 64 memory grow: 0.");
    for (int b = 0; b < 256; b++) {
      for (int op = 63; op <= 64; op++) {
        Raw.codeIs(due, op + " with " + b, code(0, op, b, 11), b == 0 ? INVALID : MALFORMED, b == 0 ? -1 : 2);
      }
    }
  }

  private static boolean isRefused(int op) {
    return op == 42 || op == 43 || op == 56 || op == 57 || op == 67 || op == 68 || op >= 91 && op <= 102
        || op >= 139 && op <= 166 || op >= 168 && op <= 171 || op >= 174 && op <= 191;
  }

  private static void refusedSections(Due due) {
    due.sentence("SECTION 2, 8 or 11 (whatever came before it);");
    for (int id : new int[] {2, 8, 11}) {
      due.module(id + " alone", Raw.after(id), REFUSED, 8);
      due.module(id + " with a size", Raw.after(id, 1, 0), REFUSED, 8);
      due.module(id + " with a size beyond", Raw.after(id, 9), REFUSED, 8);
      due.module(id + " with no LEB", Raw.after(id, 0x80), REFUSED, 8);
      for (int before : IDS) {
        due.module(id + " behind " + before, Raw.after(before, 1, 0, id), REFUSED, 11);
      }
      due.module(id + " behind 0", Raw.after(0, 1, 0, id), REFUSED, 11);
    }
    for (int id : new int[] {1, 3, 7, 9, 10}) {
      due.module(id + " is not REFUSED", Raw.after(id, 1, 0), 1, -1);
    }
    due.module("12 is none", Raw.after(12, 1, 0), MALFORMED, 8);
  }

  private static void refusedInstructions(Due due) {
    due.sentence("42, 43, 56, 57, 67, 68, 91 to 102, 139 to 166, 168 to 171, 174 to 191");
    int refused = 0;
    for (int op = 0; op < 256; op++) {
      if (isRefused(op)) {
        refused++;
        Raw.codeIs(due, "first: " + op, code(0, op, 11), REFUSED, 1);
        Raw.codeIs(due, "behind the end: " + op, code(0, 15, op), REFUSED, 2);
        Raw.codeIs(due, "in a block: " + op, code(0, 2, 64, 1, op), REFUSED, 4);
        due.module("a GLOBAL's: " + op, Raw.only(6, 1, 127, 0, op), REFUSED, CONTENT + 3);
        due.module("an ELEMENT's: " + op, Raw.only(9, 1, 0, op), REFUSED, CONTENT + 2);
      }
    }
    due.is("how many are REFUSED", refused, 6 + 12 + 28 + 4 + 18);
    for (int op : new int[] {41, 44, 55, 58, 66, 69, 90, 103, 138, 167, 172, 173}) {
      FoldForge x = new FoldForge();
      int answer = Due.module(x, Raw.code(Due.join(code(0, op), new byte[operandsOf(op)], code(11))));
      due.is(op + " is not", answer == 1 || answer == INVALID ? 1 : 0, 1);
    }
    Raw.codeIs(due, "192 is none", code(0, 192, 11), MALFORMED, 1);
  }

  private static void otherBytes(Due due) {
    due.sentence("any other byte than may stand there (at it);");
    for (int op = 0; op < 256; op++) {
      boolean none = op >= 6 && op <= 10 || op >= 18 && op <= 25 || op >= 28 && op <= 31 || op >= 37 && op <= 39
          || op >= 192;
      if (none) {
        Raw.codeIs(due, "no INSTRUCTION " + op, code(0, 1, op, 11), MALFORMED, 2);
        due.module("no CONSTANT EXPRESSION " + op, Raw.only(6, 1, 127, 0, op, 11), MALFORMED, CONTENT + 3);
      }
      if (op != 96) {
        due.module("no TYPE " + op, Raw.only(1, 1, op, 0, 0), MALFORMED, CONTENT + 1);
        due.module("no second TYPE " + op, Raw.only(1, 2, 96, 0, 0, op, 0, 0), MALFORMED, CONTENT + 4);
      }
    }
  }

  private static void ends(Due due) {
    due.sentence("the end of the TEXT, a SECTION or a CODE where something must stand (at that end);");
    // every part of each SECTION, cut off where its SECTION ends, and where the TEXT does
    byte[][] contents = {Due.bytes(1, 96, 2, 127, 126, 1, 127), Due.bytes(2, 0, 0), Due.bytes(1, 112, 1, 1, 2),
        Due.bytes(1, 1, 1, 2), Due.bytes(1, 127, 1, 65, 0, 11), Due.bytes(1, 2, 65, 66, 2, 0),
        Due.bytes(1, 0, 65, 0, 11, 2, 0, 0), Due.bytes(1, 6, 1, 1, 127, 1, 1, 11)};
    for (int k = 0; k < IDS.length; k++) {
      for (int cut = 0; cut < contents[k].length; cut++) {
        byte[] some = Arrays.copyOf(contents[k], cut);
        if (IDS[k] == 10 && cut > 1) {
          // the CODE's size tells as much as is there
          some[1] = (byte) (cut - 2);
        }
        String what = "SECTION " + IDS[k] + " of " + cut;
        due.module(what, Raw.only(IDS[k], some), MALFORMED, CONTENT + cut);
        // bytes behind the end are not looked at
        byte[] more = Due.join(Raw.only(IDS[k], some), Due.bytes(0, 1, 0));
        due.module(what + ", with another behind", more, MALFORMED, CONTENT + cut);
      }
    }
    Raw.codeIs(due, "a CODE", code(0, 1, 1), MALFORMED, 3);
    due.module("a CODE, with another behind", Due.join(Due.header(), Due.bytes(1, 4, 1, 96, 0, 0, 3, 3, 2, 0, 0, 10, 7, 2, 2,
        0, 1, 2, 0, 11)), MALFORMED, 25);
    // at the end of a TEXT of 4000 bytes, in each of its parts
    int[][] lasts = {{2}, {0, 4}, {65}, {66, 0x80}, {12}, {14, 1, 0}, {17, 0}, {40, 0}, {63}, {1}, {0}};
    for (int[] last : lasts) {
      byte[] most = Due.join(Due.bytes(0), Raw.times(4000 - 25 - last.length, 1), Due.bytes(last));
      byte[] module = Raw.code(most);
      due.is("a TEXT of 4000 bytes", module.length, 4000);
      boolean cut = last[last.length - 1] == 0x80;
      due.module("it ends with " + last[0], module, MALFORMED, cut ? 3999 : 4000);
    }
    due.module("the TEXT", Raw.after(1), MALFORMED, 9);
    due.module("the TEXT, behind a SECTION", Raw.after(1, 1, 0, 3), MALFORMED, 12);
  }

  private static void tooMany(Due due) {
    due.sentence("a SECTION, CODE whose bytes are more than what it has (at the first one too many);");
    byte[][] contents = {Due.bytes(1, 96, 0, 0), Due.bytes(1, 0), Due.bytes(1, 112, 0, 1), Due.bytes(1, 0, 1),
        Due.bytes(1, 127, 0, 65, 0, 11), Due.bytes(1, 0, 0, 0), Due.bytes(1, 0, 65, 0, 11, 0), Due.bytes(1, 2, 0, 11)};
    for (int k = 0; k < IDS.length; k++) {
      for (int more = 1; more < 4; more++) {
        byte[] all = Due.join(contents[k], new byte[more]);
        due.module(more + " in SECTION " + IDS[k], Raw.only(IDS[k], all), MALFORMED, CONTENT + contents[k].length);
      }
    }
    for (int more = 1; more < 4; more++) {
      Raw.codeIs(due, more + " in a CODE", Due.join(code(0, 1, 11), new byte[more]), MALFORMED, 3);
      Raw.codeIs(due, more + " 11 in a CODE", Due.join(code(0, 1, 11), Raw.times(more, 11)), MALFORMED, 3);
    }
  }

  private static void sizesBeyond(Due due) {
    due.sentence("a SECTION or CODE size beyond the end of what it is in (at the size's first byte);");
    for (int id = 0; id < 11; id++) {
      if (id == 2 || id == 8) {
        continue;
      }
      due.module("a SECTION of as many as there are: " + id, Raw.after(id, 1, 0), 1, -1);
      for (int beyond : new int[] {2, 3, 127}) {
        due.module("a SECTION of " + beyond + ": " + id, Raw.after(id, beyond, 0), MALFORMED, 9);
      }
      due.module("a size in two bytes: " + id, Raw.after(id, 0x82, 0, 0), MALFORMED, 9);
    }
    byte[] ahead = Due.join(Due.header(), Due.bytes(1, 4, 1, 96, 0, 0, 3, 3, 2, 0, 0));
    due.module("CODES of as many", Due.join(ahead, Due.bytes(10, 7, 2, 2, 0, 11, 2, 0, 11)), 1, -1);
    due.module("the last of one more", Due.join(ahead, Due.bytes(10, 7, 2, 2, 0, 11, 3, 0, 11)), MALFORMED, 25);
    due.module("the last of one more, in two bytes", Due.join(ahead, Due.bytes(10, 8, 2, 2, 0, 11, 0x83, 0, 0, 11)),
        MALFORMED, 25);
    due.module("the first beyond all", Due.join(ahead, Due.bytes(10, 7, 2, 6, 0, 11, 2, 0, 11)), MALFORMED, 22);
    due.module("the first up to the end", Due.join(ahead, Due.bytes(10, 7, 2, 5, 0, 11, 2, 0, 11)), MALFORMED, 25);
    due.module("beyond the SECTION, not the TEXT", Due.join(ahead, Due.bytes(10, 7, 2, 2, 0, 11, 3, 0, 11, 0, 1, 0)),
        MALFORMED, 25);
  }

  private static byte[] counted(int functions, int codes) {
    byte[] all = Due.join(Due.header(), Due.bytes(1, 4, 1, 96, 0, 0));
    if (functions >= 0) {
      all = Due.join(all, Due.section(3, Due.join(Due.unsigned(functions), new byte[functions])));
    }
    if (codes >= 0) {
      all = Due.join(all, Due.section(10, Due.join(Due.unsigned(codes), Raw.times(codes, 2, 0, 11))));
    }
    return all;
  }

  private static void unlikeNumbers(Due due) {
    due.sentence("at the end (of the TEXT): SECTIONS 3 and 10 with unlike numbers.");
    for (int functions = -1; functions < 4; functions++) {
      for (int codes = -1; codes < 4; codes++) {
        byte[] module = counted(functions, codes);
        boolean like = Math.max(functions, 0) == Math.max(codes, 0);
        String what = functions + " and " + codes;
        due.module(what, module, like ? 1 : MALFORMED, like ? -1 : module.length);
        byte[] more = Due.join(module, Due.bytes(0, 2, 0, 0));
        due.module(what + ", with a 0 behind", more, like ? 1 : MALFORMED, like ? -1 : more.length);
      }
    }
    due.module("60 and 60", counted(60, 60), 1, -1);
    due.module("60 and 59", counted(60, 59), MALFORMED, counted(60, 59).length);
    // what READING meets before that end comes first; it comes ahead of what makes a MODULE INVALID
    byte[] refused = Due.join(counted(1, 0), Due.bytes(11));
    due.module("then a REFUSED one", refused, REFUSED, refused.length - 1);
    due.module("ahead of VALID", Raw.after(3, 2, 1, 5), MALFORMED, 12);
  }

  private static void sixtyThings(Due due) {
    due.sentence("REFUSED are, too: any VEC of more than 60 things (at its n; a name's bytes are no things);");
    for (int id : IDS) {
      FoldForge x = new FoldForge();
      byte[] most = things(id, 60, 60);
      int answer = Due.module(x, most);
      due.is("60 of " + id, answer == REFUSED ? 1 : 0, 0);
      due.is("60 of " + id + ": place", x.place(), id == 3 || id == 10 ? most.length : -1);
      due.module("61 of " + id, things(id, 61, 61), REFUSED, most[9] < 0 ? 11 : 10);
      due.module("61 of " + id + " at an end", Raw.only(id, 61), REFUSED, CONTENT);
      due.module("60 of " + id + " at an end", Raw.only(id, 60), MALFORMED, CONTENT + 1);
      due.module("128 of " + id, Raw.only(id, 0x80, 1), REFUSED, CONTENT);
    }
    for (int n = 60; n <= 61; n++) {
      int answer = n == 60 ? 1 : REFUSED;
      byte[] takes = Due.join(Due.bytes(1, 96, n), Raw.times(n, 126), Due.bytes(0));
      due.module(n + " ARGUMENTS", Raw.only(1, takes), answer, n == 60 ? -1 : CONTENT + 2);
      byte[] element = Due.join(Due.bytes(1, 0, 65, 0, 11, n), new byte[n]);
      due.module(n + " FUNCTIONS", Raw.only(9, element), n == 60 ? INVALID : REFUSED, n == 60 ? -1 : CONTENT + 5);
      Raw.codeIs(due, n + " groups", Due.join(code(n), Raw.times(n, 0, 127), code(11)), answer, n == 60 ? -1 : 0);
      Raw.codeIs(due, n + " labels", Due.join(code(0, 0, 14, n), new byte[n + 1], code(11)), answer, n == 60 ? -1 : 3);
    }
    for (int n : new int[] {60, 61, 62, 127, 128, 1000}) {
      byte[] name = Due.join(Due.unsigned(n), new byte[n]);
      byte[] module = Due.join(Due.header(), Due.bytes(5, 3, 1, 0, 1),
          Due.section(7, Due.join(Due.bytes(1), name, Due.bytes(2, 0))), Due.section(0, name));
      due.module("a name of " + n, module, 1, -1);
    }
  }

  private static void locals(Due due) {
    due.sentence("a LOCALS' number with which a CODE has more than 50 (without ARGUMENTS; at it);");
    for (int n = 0; n <= 60; n++) {
      int answer = n <= 50 ? 1 : REFUSED;
      Raw.codeIs(due, n + " LOCALS", code(1, n, 127, 11), answer, n <= 50 ? -1 : 1);
      Raw.codeIs(due, "1 and " + n, code(2, 1, 126, n, 127, 11), n <= 49 ? 1 : REFUSED, n <= 49 ? -1 : 3);
      Raw.codeIs(due, n + " and 25 and 0", code(3, n, 126, 25, 127, 0, 126, 11), n <= 25 ? 1 : REFUSED,
          n <= 25 ? -1 : n <= 50 ? 3 : 1);
    }
    Raw.codeIs(due, "51 singly", Due.join(code(51), Raw.times(51, 1, 127), code(11)), REFUSED, 1 + 2 * 50);
    Raw.codeIs(due, "50 singly", Due.join(code(50), Raw.times(50, 1, 127), code(11)), 1, -1);
    Raw.codeIs(due, "51 in two bytes", code(1, 0xB3, 0, 127, 11), REFUSED, 1);
    Raw.codeIs(due, "50 in two bytes", code(1, 0xB2, 0, 127, 11), 1, -1);
    Raw.codeIs(due, "the number comes before its VALUE TYPE", code(1, 51), REFUSED, 1);
    int[] sixty = new int[60];
    Arrays.fill(sixty, 127);
    byte[] fifty = Due.bytes(1, 50, 126);
    Built built = new Built().type(0, sixty).type(126).function(0, fifty, Due.bytes());
    built.function(1, fifty, Due.bytes(32, 49)).function(0, fifty, Due.bytes(32, 109, 26));
    due.module("60 ARGUMENTS and 50 LOCALS, each CODE its own", built.bytes(), 1, -1);
    built = new Built().type(0, sixty).function(0, fifty, Due.bytes(32, 110, 26));
    due.module("there is no 111th", built.bytes(), INVALID, -1);
  }

  private static void open(Due due) {
    due.sentence("the 21st block, loop, if that is OPEN (its first byte).");
    for (int op = 2; op <= 4; op++) {
      byte[] one = op == 4 ? code(65, 0, 4, 64) : code(op, 64);
      for (int n = 19; n <= 23; n++) {
        byte[] all = code(0);
        for (int k = 0; k < n; k++) {
          all = Due.join(all, one);
        }
        all = Due.join(all, Raw.times(n + 1, 11));
        int place = 1 + 21 * one.length - 2;
        Raw.codeIs(due, n + " of " + op, all, n <= 20 ? 1 : REFUSED, n <= 20 ? -1 : place);
      }
    }
    byte[] twenty = Due.join(code(0), Raw.times(20, 2, 64));
    byte[] again = Due.join(twenty, code(11, 3, 64, 11, 2, 64, 11), Raw.times(20, 11));
    Raw.codeIs(due, "one that is closed is not OPEN", again, 1, -1);
    for (int op = 2; op <= 4; op++) {
      Raw.codeIs(due, "the 21st is a " + op, Due.join(twenty, code(op)), REFUSED, 41);
      Raw.codeIs(due, "the 21st again is a " + op, Due.join(twenty, code(11, 2, 64, op)), REFUSED, 44);
      // an if behind its 5 is OPEN, and no more than that
      byte[] ifs = Due.join(code(0), Raw.times(19, 2, 64), code(65, 0, 4, 64, 5));
      Raw.codeIs(due, "the 21st in an if's 5 is a " + op, Due.join(ifs, code(op)), REFUSED, 44);
    }
    byte[] both = Due.join(code(0), Raw.times(19, 2, 64), code(65, 0, 4, 64, 5), Raw.times(21, 11));
    Raw.codeIs(due, "an if with 5 is one", both, 1, -1);
    byte[] next = Due.join(Due.header(), Due.bytes(1, 4, 1, 96, 0, 0, 3, 3, 2, 0, 0), Due.section(10, Due.join(
        Due.bytes(2), Due.code(Due.bytes(0), Due.join(Raw.times(20, 2, 64), Raw.times(20, 11))),
        Due.code(Due.bytes(0), Due.join(Raw.times(20, 3, 64), Raw.times(20, 11))))));
    due.module("each CODE has its own", next, 1, -1);
  }

  private static void firstFault(Due due) {
    due.sentence("READING goes from the first byte on; the first of these that is met ends it, at the byte where it is"
        + " met");
    due.module("MALFORMED, then REFUSED", Raw.after(12, 2), MALFORMED, 8);
    due.module("REFUSED, then MALFORMED", Raw.after(2, 0x80), REFUSED, 8);
    due.module("a VEC's n ahead of its things", Raw.only(1, 61, 95), REFUSED, CONTENT);
    due.module("a thing ahead of a later n", Raw.only(1, 1, 95, 61), MALFORMED, CONTENT + 1);
    due.module("a size ahead of what is in it", Raw.after(1, 9, 61), MALFORMED, 9);
    due.module("an ill byte ahead of one too many", Raw.after(5, 4, 1, 2, 1, 1), MALFORMED, CONTENT + 1);
    due.module("one too many ahead of the next id", Raw.after(5, 2, 0, 0, 2), MALFORMED, CONTENT + 1);
    Raw.codeIs(due, "LOCALS ahead of INSTRUCTIONS", code(1, 51, 127, 42, 11), REFUSED, 1);
    Raw.codeIs(due, "an INSTRUCTION ahead of another", code(0, 6, 42, 11), MALFORMED, 1);
    Raw.codeIs(due, "an INSTRUCTION ahead of the end", code(0, 42), REFUSED, 1);
    due.module("READING ahead of VALID", Raw.after(5, 3, 1, 0, 3, 12), MALFORMED, 13);
    due.module("VALID behind it", Raw.after(5, 3, 1, 0, 3), REFUSED, -1);
  }
}
