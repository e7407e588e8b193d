/** Promises 8 and 9: what each numeric INSTRUCTION gives, by the Java library's own arithmetic. */
public final class NumbersTest {
  private static final int I32 = 127;
  private static final int I64 = 126;
  private static final int[] SMALL = {0, 1, -1, 2, -2, 3, 7, -7, 10, 31, 32, 33, -32, 63, 64, 127, -128, 255, 256,
      65535, 65536, 1000000007, 0x55555555, Integer.MAX_VALUE, Integer.MAX_VALUE - 1, Integer.MIN_VALUE,
      Integer.MIN_VALUE + 1};
  private static final long[] GREAT = {0, 1, -1, 2, -2, 3, 7, -7, 31, 32, 33, 63, 64, 65, -64, 255, 65535,
      2147483647L, 2147483648L, -2147483648L, 4294967295L, 4294967296L, -4294967296L, 0x5555555555555555L,
      1000000000000000003L, Long.MAX_VALUE, Long.MAX_VALUE - 1, Long.MIN_VALUE, Long.MIN_VALUE + 1};

  public static void main(String[] args) {
    Due due = Due.begin();
    for (int op = 69; op <= 79; op++) {
      small(due, op, I32);
    }
    for (int op = 80; op <= 90; op++) {
      great(due, op, I32);
    }
    for (int op = 103; op <= 120; op++) {
      small(due, op, I32);
    }
    for (int op = 121; op <= 138; op++) {
      great(due, op, I64);
    }
    small(due, 172, I64);
    small(due, 173, I64);
    great(due, 167, I32);
    constants(due);
    due.end("NumbersTest");
  }

  private static FoldForge of(Due due, int op, int gives, int type, boolean one) {
    FoldForge x = new FoldForge();
    byte[] code = one ? Due.bytes(32, 0, op) : Due.bytes(32, 0, 32, 1, op);
    due.is("module of " + op, Due.module(x, Due.one(gives, Due.takes(type, type), code)), 1);
    return x;
  }

  private static void compare(Due due, FoldForge x, String what, Long wanted, int trap, int steps) {
    due.is(what + ": run", x.run(0, 100), wanted == null ? 2 : 0);
    due.is(what, x.outcome(0), wanted == null ? 0 : wanted);
    due.is(what + ": TRAP", x.outcome(2), wanted == null ? trap : 0);
    due.is(what + ": STEPS", x.outcome(1), steps);
  }

  private static void small(Due due, int op, int gives) {
    boolean one = op == 69 || op >= 103 && op <= 105 || op >= 172;
    for (int a : SMALL) {
      FoldForge x = of(due, op, gives, I32, one);
      for (int b : one ? new int[] {0} : SMALL) {
        // bits above the low ones are not looked at
        x.argument(0, a ^ 0x7000000000L);
        x.argument(1, b ^ 0x1200000000L);
        int trap = b == 0 ? 2 : 3;
        compare(due, x, a + " " + op + " " + b, wanted32(op, a, b), trap, one ? 2 : 3);
      }
    }
  }

  private static void great(Due due, int op, int gives) {
    boolean one = op == 80 || op >= 121 && op <= 123 || op == 167;
    for (long a : GREAT) {
      FoldForge x = of(due, op, gives, I64, one);
      for (long b : one ? new long[] {0} : GREAT) {
        x.argument(0, a);
        x.argument(1, b);
        int trap = b == 0 ? 2 : 3;
        compare(due, x, a + " " + op + " " + b, wanted64(op, a, b), trap, one ? 2 : 3);
      }
    }
  }

  private static long bit(boolean is) {
    return is ? 1 : 0;
  }

  /** null: a TRAP. */
  private static Long wanted32(int op, int a, int b) {
    switch (op) {
      case 69: return bit(a == 0);
      case 70: return bit(a == b);
      case 71: return bit(a != b);
      case 72: return bit(a < b);
      case 73: return bit(Integer.compareUnsigned(a, b) < 0);
      case 74: return bit(a > b);
      case 75: return bit(Integer.compareUnsigned(a, b) > 0);
      case 76: return bit(a <= b);
      case 77: return bit(Integer.compareUnsigned(a, b) <= 0);
      case 78: return bit(a >= b);
      case 79: return bit(Integer.compareUnsigned(a, b) >= 0);
      case 103: return (long) Integer.numberOfLeadingZeros(a);
      case 104: return (long) Integer.numberOfTrailingZeros(a);
      case 105: return (long) Integer.bitCount(a);
      case 106: return (long) (a + b);
      case 107: return (long) (a - b);
      case 108: return (long) (a * b);
      case 109: return b == 0 || a == Integer.MIN_VALUE && b == -1 ? null : (Long) (long) (a / b);
      case 110: return b == 0 ? null : (Long) (long) Integer.divideUnsigned(a, b);
      case 111: return b == 0 ? null : (Long) (long) (a % b);
      case 112: return b == 0 ? null : (Long) (long) Integer.remainderUnsigned(a, b);
      case 113: return (long) (a & b);
      case 114: return (long) (a | b);
      case 115: return (long) (a ^ b);
      case 116: return (long) (a << b);
      case 117: return (long) (a >> b);
      case 118: return (long) (a >>> b);
      case 119: return (long) Integer.rotateLeft(a, b);
      case 120: return (long) Integer.rotateRight(a, b);
      case 172: return (long) a;
      default: return Integer.toUnsignedLong(a);
    }
  }

  private static Long wanted64(int op, long a, long b) {
    switch (op) {
      case 80: return bit(a == 0);
      case 81: return bit(a == b);
      case 82: return bit(a != b);
      case 83: return bit(a < b);
      case 84: return bit(Long.compareUnsigned(a, b) < 0);
      case 85: return bit(a > b);
      case 86: return bit(Long.compareUnsigned(a, b) > 0);
      case 87: return bit(a <= b);
      case 88: return bit(Long.compareUnsigned(a, b) <= 0);
      case 89: return bit(a >= b);
      case 90: return bit(Long.compareUnsigned(a, b) >= 0);
      case 121: return (long) Long.numberOfLeadingZeros(a);
      case 122: return (long) Long.numberOfTrailingZeros(a);
      case 123: return (long) Long.bitCount(a);
      case 124: return a + b;
      case 125: return a - b;
      case 126: return a * b;
      case 127: return b == 0 || a == Long.MIN_VALUE && b == -1 ? null : (Long) (a / b);
      case 128: return b == 0 ? null : (Long) Long.divideUnsigned(a, b);
      case 129: return b == 0 ? null : (Long) (a % b);
      case 130: return b == 0 ? null : (Long) Long.remainderUnsigned(a, b);
      case 131: return a & b;
      case 132: return a | b;
      case 133: return a ^ b;
      case 134: return a << b;
      case 135: return a >> b;
      case 136: return a >>> b;
      case 137: return Long.rotateLeft(a, (int) b);
      case 138: return Long.rotateRight(a, (int) b);
      default: return (long) (int) a;
    }
  }

  private static void constants(Due due) {
    for (int a : SMALL) {
      FoldForge x = new FoldForge();
      byte[] code = Due.join(Due.bytes(65), Due.signed(a));
      due.is("module", Due.module(x, Due.one(I32, Due.takes(), code)), 1);
      compare(due, x, "i32 " + a, (long) a, 0, 1);
    }
    for (long a : GREAT) {
      FoldForge x = new FoldForge();
      byte[] code = Due.join(Due.bytes(66), Due.signed(a));
      due.is("module", Due.module(x, Due.one(I64, Due.takes(), code)), 1);
      compare(due, x, "i64 " + a, a, 0, 1);
    }
    FoldForge x = new FoldForge();
    byte[] five = Due.bytes(65, 0x80, 0x80, 0x80, 0x80, 0x78);
    due.is("module", Due.module(x, Due.one(I32, Due.takes(), five)), 1);
    compare(due, x, "the least of five bytes", (long) Integer.MIN_VALUE, 0, 1);
    byte[] ten = Due.bytes(66, 0xFF, 0xFF, 0xFF, 0xFF, 0xFF, 0xFF, 0xFF, 0xFF, 0xFF, 0x7F);
    due.is("module", Due.module(x, Due.one(I64, Due.takes(), ten)), 1);
    compare(due, x, "-1 of ten bytes", -1L, 0, 1);
  }
}
