/** Promises 3, 4, 9 and 10: the bounds of LEBs, wherever one stands, a sentence at a time. */
public final class BoundsOfLebTest {
  private static final int MALFORMED = -1;

  public static void main(String[] args) {
    Due due = Due.begin();
    unsignedLength(due);
    unsignedFifth(due);
    unsignedCutOff(due);
    signedLength(due);
    sign(due);
    likeTheSign(due);
    signedCutOff(due);
    lowestFirst(due);
    due.end("BoundsOfLebTest");
  }

  // what comes of it where the greatest number of all stands at a place
  private static final int BEYOND = 0;
  private static final int MANY = 1;
  private static final int SHORT = 2;
  private static final int LIMIT = 3;
  private static final int NONE_THERE = 4;

  /** A u32 at one place of a MODULE; a number that READING goes on with is told, too. */
  private static final class Spot {
    private final String what;
    // a SECTION's id; 0 with a name: a SECTION 0; below: whole SECTIONS (-1), a CODE (-2)
    private final int id;
    private final byte[] ahead;
    private final int number;
    private final byte[] behind;
    private final int great;

    private Spot(String what, int id, int[] ahead, int number, int[] behind, int great) {
      this.what = what;
      this.id = id;
      this.ahead = Due.bytes(ahead);
      this.number = number;
      this.behind = Due.bytes(behind);
      this.great = great;
    }

    private byte[] module(byte[] leb, byte[] rest) {
      byte[] content = Due.join(ahead, leb, rest);
      if (id == -2) {
        return Raw.code(content);
      }
      return id == -1 ? Due.join(Due.header(), content) : Raw.only(id, content);
    }

    private int place(byte[] leb, byte[] rest) {
      return module(leb, rest).length - rest.length - leb.length;
    }
  }

  private static Spot at(int great, String what, int id, int[] ahead, int number, int... behind) {
    return new Spot(what, id, ahead, number, behind, great);
  }

  private static Spot code(int great, String what, int[] ahead, int number, int... behind) {
    return new Spot(what, -2, ahead, number, behind, great);
  }

  private static int[] b(int... numbers) {
    return numbers;
  }

  /** Every place at which the document has a u32. */
  private static Spot[] spots() {
    return new Spot[] {
      at(BEYOND, "a SECTION's size", -1, b(1), 1, 0),
      at(BEYOND, "a SECTION 0's size", -1, b(0), 3, 2, 7, 7),
      at(BEYOND, "a CODE's size", 10, b(1), 2, 0, 11),
      at(BEYOND, "an ELEMENT's 0", 9, b(1), 0, 65, 0, 11, 0),
      at(SHORT, "a SECTION 0's name", 0, b(), 2, 7, 7),
      at(SHORT, "an EXPORT's name", 7, b(1), 2, 97, 98, 0, 0),
      at(MANY, "TYPES", 1, b(), 1, 96, 0, 0),
      at(MANY, "ARGUMENTS", 1, b(1, 96), 2, 127, 126, 0),
      at(MANY, "what a TYPE gives", 1, b(1, 96, 0), 1, 127),
      at(MANY, "FUNCTIONS", 3, b(), 0),
      at(MANY, "TABLES", 4, b(), 1, 112, 0, 1),
      at(MANY, "MEMORIES", 5, b(), 1, 0, 1),
      at(MANY, "GLOBALS", 6, b(), 1, 127, 0, 65, 0, 11),
      at(MANY, "EXPORTS", 7, b(), 1, 0, 0, 0),
      at(MANY, "ELEMENTS", 9, b(), 1, 0, 65, 0, 11, 0),
      at(MANY, "an ELEMENT's FUNCTIONS", 9, b(1, 0, 65, 0, 11), 2, 0, 1),
      at(MANY, "CODES", 10, b(), 0),
      code(MANY, "groups of LOCALS", b(), 1, 3, 127, 11),
      code(MANY, "LOCALS", b(1), 3, 127, 11),
      code(MANY, "labels", b(0, 65, 0, 14), 1, 0, 0, 11),
      at(LIMIT, "a TABLE's least", 4, b(1, 112, 0), 7),
      at(LIMIT, "a TABLE's most", 4, b(1, 112, 1, 7), 9),
      at(LIMIT, "a MEMORY's least", 5, b(1, 0), 1),
      at(LIMIT, "a MEMORY's most", 5, b(1, 1, 1), 2),
      at(NONE_THERE, "a TABLE's least, with most", 4, b(1, 112, 1), 7, 9),
      at(NONE_THERE, "a MEMORY's least, with most", 5, b(1, 1), 1, 1),
      at(NONE_THERE, "a GLOBAL's GLOBAL", 6, b(1, 127, 0, 35), 0, 11),
      at(NONE_THERE, "an EXPORT's number", 7, b(1, 0, 0), 3),
      at(NONE_THERE, "an ELEMENT's GLOBAL", 9, b(1, 0, 35), 0, 11, 0),
      at(NONE_THERE, "an ELEMENT's FUNCTION", 9, b(1, 0, 65, 0, 11, 2, 0), 1),
      code(NONE_THERE, "br", b(0, 12), 0, 11),
      code(NONE_THERE, "br_if", b(0, 65, 0, 13), 0, 11),
      code(NONE_THERE, "a label", b(0, 65, 0, 14, 1), 0, 0, 11),
      code(NONE_THERE, "the last label", b(0, 65, 0, 14, 1, 0), 0, 11),
      code(NONE_THERE, "call", b(0, 16), 0, 11),
      code(NONE_THERE, "call_indirect", b(0, 17), 0, 0, 11),
      code(NONE_THERE, "get of a LOCAL", b(0, 32), 0, 11),
      code(NONE_THERE, "set of a LOCAL", b(0, 33), 0, 11),
      code(NONE_THERE, "tee of a LOCAL", b(0, 34), 0, 11),
      code(NONE_THERE, "get of a GLOBAL", b(0, 35), 0, 11),
      code(NONE_THERE, "set of a GLOBAL", b(0, 36), 0, 11),
      code(NONE_THERE, "a load's ALIGN", b(0, 40), 2, 0, 11),
      code(NONE_THERE, "a load's OFFSET", b(0, 40, 2), 9, 11),
      code(NONE_THERE, "a store's ALIGN", b(0, 54), 2, 0, 11),
      code(NONE_THERE, "a store's OFFSET", b(0, 54, 2), 9, 11),
    };
  }

  /** The number in as many bytes as told. */
  private static byte[] padded(long number, int many) {
    byte[] leb = new byte[many];
    for (int k = 0; k < many; k++) {
      long low = k < 9 ? number >> 7 * k & 127 : number < 0 ? 127 : 0;
      leb[k] = (byte) (k < many - 1 ? low | 128 : low);
    }
    return leb;
  }

  /** READING goes on behind this u32, to the same end as behind the number in one byte. */
  private static void reads(Due due, Spot spot, byte[] leb) {
    byte[] one = padded(spot.number, 1);
    FoldForge x = new FoldForge();
    int wanted = Due.module(x, spot.module(one, spot.behind));
    int fromEnd = x.place() < 0 ? -1 : spot.module(one, spot.behind).length - x.place();
    due.is(spot.what + " is read", fromEnd < 0 || fromEnd <= spot.behind.length ? 1 : 0, 1);
    int place = fromEnd < 0 ? -1 : spot.module(leb, spot.behind).length - fromEnd;
    due.module(spot.what + " in " + leb.length, spot.module(leb, spot.behind), wanted, place);
  }

  private static void malformed(Due due, Spot spot, byte[] leb, byte[] rest) {
    due.module(spot.what + " in " + leb.length + " that ends with " + (leb.length == 0 ? -1 : leb[leb.length - 1] & 255),
        spot.module(leb, rest), MALFORMED, spot.place(leb, rest));
  }

  private static void unsignedLength(Due due) {
    due.sentence("Without a sign (u32): at most 5 bytes,");
    for (Spot spot : spots()) {
      for (int many = 1; many <= 5; many++) {
        reads(due, spot, padded(spot.number, many));
      }
      malformed(due, spot, padded(spot.number, 6), spot.behind);
      malformed(due, spot, padded(spot.number, 7), spot.behind);
    }
  }

  private static void great(Due due, Spot spot, byte[] leb) {
    byte[] module = spot.module(leb, spot.behind);
    int here = spot.place(leb, spot.behind);
    int[] answers = {MALFORMED, -2, MALFORMED, -2, -3};
    int[] places = {here, here, module.length, -1, -1};
    due.module("a great number: " + spot.what, module, answers[spot.great], places[spot.great]);
  }

  private static void unsignedFifth(Due due) {
    due.sentence("a 5th one below 16.");
    for (Spot spot : spots()) {
      for (int last : new int[] {16, 17, 31, 32, 64, 112, 127, 128, 143, 144, 255}) {
        byte[] leb = padded(spot.number, 5);
        leb[4] = (byte) last;
        malformed(due, spot, leb, spot.behind);
      }
      great(due, spot, Due.bytes(0xFF, 0xFF, 0xFF, 0xFF, 15));
      great(due, spot, Due.bytes(0x80, 0x80, 0x80, 0x80, 8));
    }
    byte[] greatest = Due.bytes(0xFF, 0xFF, 0xFF, 0xFF, 15);
    // TYPE numbers, of which a CODE comes behind
    due.module("a TYPE number", Due.join(Due.header(), Due.bytes(3, 6, 1), greatest, Due.bytes(10, 4, 1, 2, 0, 11)), -3, -1);
    due.module("a TYPE number with 16", Raw.after(3, 6, 1, 0xFF, 0xFF, 0xFF, 0xFF, 16, 10, 4, 1, 2, 0, 11), MALFORMED, 11);
    due.module("a TYPE number in six", Raw.after(3, 7, 1, 0x80, 0x80, 0x80, 0x80, 0x80, 0), MALFORMED, 11);
    due.module("the greatest", Raw.only(5, Due.join(Due.bytes(1, 0), greatest)), -2, -1);
    due.module("beyond", Raw.only(5, 1, 0, 0xFF, 0xFF, 0xFF, 0xFF, 16), MALFORMED, Raw.CONTENT + 2);
    due.module("the least with a fifth", Raw.only(5, 1, 0, 0x80, 0x80, 0x80, 0x80, 1), -2, -1);
    due.module("0 in five", Raw.only(5, 1, 0, 0x80, 0x80, 0x80, 0x80, 0), 1, -1);
  }

  private static void unsignedCutOff(Due due) {
    due.sentence("Any other row of bytes, or one that is cut off, is MALFORMED at its first byte.");
    for (Spot spot : spots()) {
      for (int many = 0; many <= 4; many++) {
        byte[] leb = Raw.times(many, 0x80);
        malformed(due, spot, leb, new byte[0]);
      }
    }
    // cut off by the end of a CODE, of a SECTION, though bytes come behind it
    due.module("cut off by a CODE", Due.join(Due.header(), Due.bytes(1, 4, 1, 96, 0, 0, 3, 3, 2, 0, 0, 10, 8, 2, 3, 0, 16,
        0x80, 2, 0, 11)), MALFORMED, 25);
    due.module("cut off by a SECTION", Raw.after(3, 2, 1, 0x80, 0, 1, 0), MALFORMED, 11);
  }

  private static byte[] constant(int op, byte[] leb) {
    return Due.one(op == 65 ? 127 : 126, Due.takes(), Due.join(Due.bytes(op), leb));
  }

  /** The number, as an INSTRUCTION's, a GLOBAL's. */
  private static void gives(Due due, int op, byte[] leb, long number) {
    FoldForge x = new FoldForge();
    due.is(number + " in " + leb.length, Due.module(x, constant(op, leb)), 1);
    due.is(number + ": run", x.run(0, 1), 0);
    due.is(number + ": gives", x.outcome(0), number);
    byte[] global = Due.join(Due.bytes(1, op == 65 ? 127 : 126, 0, op), leb, Due.bytes(11));
    due.is(number + ", a GLOBAL's, in " + leb.length, Due.module(x, Raw.only(6, global)), 1);
    due.is(number + ": global", x.global(0), number);
  }

  private static void ill(Due due, int op, byte[] leb, byte[] behind) {
    byte[] code = Due.join(Due.bytes(0, op), leb, behind);
    Raw.codeIs(due, "the number of " + op + " in " + leb.length, code, MALFORMED, 2);
    byte[] global = Due.join(Due.bytes(1, op == 65 ? 127 : 126, 0, op), leb, behind);
    due.module("a GLOBAL's number in " + leb.length, Raw.only(6, global), MALFORMED, Raw.CONTENT + 4);
    byte[] element = Due.join(Due.bytes(1, 0, op), leb, behind);
    due.module("an ELEMENT's number in " + leb.length, Raw.only(9, element), MALFORMED, Raw.CONTENT + 3);
  }

  private static void signedLength(Due due) {
    due.sentence("With a sign (s32, s64): at most 5, 10 bytes;");
    for (long number : new long[] {0, -1, 5, -64}) {
      for (int many = 1; many <= 10; many++) {
        if (many <= 5) {
          gives(due, 65, padded(number, many), number);
        } else {
          ill(due, 65, padded(number, many), Due.bytes(11));
        }
        gives(due, 66, padded(number, many), number);
      }
      ill(due, 66, padded(number, 11), Due.bytes(11));
      ill(due, 66, padded(number, 12), Due.bytes(11));
    }
  }

  private static void sign(Due due) {
    due.sentence("bit 6 of the last byte is the sign;");
    for (int op = 65; op <= 66; op++) {
      int width = op == 65 ? 32 : 64;
      for (int many = 1; 7 * many <= width; many++) {
        long half = 1L << 7 * many - 1;
        gives(due, op, padded(half - 1, many), half - 1);
        gives(due, op, padded(-half, many), -half);
        // with one bit more it is the other sign's
        gives(due, op, padded(half, many), -half);
        gives(due, op, padded(-half - 1, many), half - 1);
      }
    }
    gives(due, 65, Due.bytes(0x3F), 63);
    gives(due, 65, Due.bytes(0x40), -64);
    gives(due, 65, Due.bytes(0xBF, 0), 63);
    gives(due, 65, Due.bytes(0xC0, 0), 64);
    gives(due, 65, Due.bytes(0xC0, 0x7F), -64);
    gives(due, 66, Due.bytes(0xFF, 0x3F), 8191);
    gives(due, 66, Due.bytes(0x80, 0x40), -8192);
  }

  private static void likeTheSign(Due due) {
    due.sentence("of a 5th (10th) byte the bits beyond the width, and the highest one of the width, are like the sign.");
    gives(due, 65, padded(Integer.MAX_VALUE, 5), Integer.MAX_VALUE);
    gives(due, 65, padded(Integer.MIN_VALUE, 5), Integer.MIN_VALUE);
    gives(due, 66, padded(Long.MAX_VALUE, 10), Long.MAX_VALUE);
    gives(due, 66, padded(Long.MIN_VALUE, 10), Long.MIN_VALUE);
    for (int last = 0; last < 256; last++) {
      byte[] five = Due.bytes(0x80, 0x80, 0x80, 0x80, last);
      if (last < 8 || last >= 0x78 && last < 0x80) {
        gives(due, 65, five, (int) ((long) last << 28));
      } else {
        ill(due, 65, five, Due.bytes(11));
      }
      byte[] ten = Due.join(Raw.times(9, 0xFF), Due.bytes(last));
      if (last == 0 || last == 0x7F) {
        gives(due, 66, ten, last == 0 ? Long.MAX_VALUE : -1);
      } else {
        ill(due, 66, ten, Due.bytes(11));
      }
    }
    // of an s64 a 5th byte is one like another
    gives(due, 66, Due.bytes(0x80, 0x80, 0x80, 0x80, 8), 1L << 31);
    gives(due, 66, Due.bytes(0x80, 0x80, 0x80, 0x80, 0x77), -(9L << 28));
  }

  private static void signedCutOff(Due due) {
    due.sentence("or one that is cut off, is MALFORMED at its first byte.");
    for (int many = 0; many < 5; many++) {
      ill(due, 65, Raw.times(many, 0x80), new byte[0]);
      ill(due, 65, Raw.times(many, 0xFF), new byte[0]);
    }
    for (int many = 0; many < 10; many++) {
      ill(due, 66, Raw.times(many, 0x80), new byte[0]);
      ill(due, 66, Raw.times(many, 0xFF), new byte[0]);
    }
  }

  private static void lowestFirst(Due due) {
    due.sentence("LEB of a width: bytes, each with 7 bits, the lowest first, each but the last with its top bit set.");
    gives(due, 65, Due.bytes(0x81, 0x82, 0x83, 0x84, 5), 1 + (2 << 7) + (3 << 14) + (4 << 21) + (5 << 28));
    gives(due, 66, Due.bytes(0x81, 0x82, 0x83, 0x84, 0x85, 0x86, 0x87, 0x88, 0x89, 0),
        1 + (2L << 7) + (3L << 14) + (4L << 21) + (5L << 28) + (6L << 35) + (7L << 42) + (8L << 49) + (9L << 56));
    // a byte without it is the last one: what comes behind is an INSTRUCTION
    Raw.codeIs(due, "127 is a last one", Due.bytes(0, 65, 0x7F, 26, 11), 1, -1);
    Raw.codeIs(due, "128 is no last one", Due.bytes(0, 65, 0x80, 26, 11), -3, -1);
    FoldForge x = new FoldForge();
    due.is("a name of 130 bytes", Due.module(x, Due.join(Due.header(), Due.bytes(5, 3, 1, 0, 0),
        Due.section(7, Due.join(Due.bytes(1, 0x82, 1), new byte[130], Due.bytes(2, 0))))), 1);
    due.is("its bytes", x.export(0, 2), 130);
  }
}
