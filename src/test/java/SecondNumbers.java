/** A second reading of the document: what the INSTRUCTIONS on numbers give, by the Java library's own functions. */
final class SecondNumbers {
  /** INSTRUCTIONS of i32: 69 to 79, 103 to 120. */
  static long whole(int op, int left, int right) {
    if (op >= 109 && op <= 112) {
      return divided(op, left, right);
    }
    return switch (op) {
      case 69 -> left == 0 ? 1 : 0;
      case 103 -> Integer.numberOfLeadingZeros(left);
      case 104 -> Integer.numberOfTrailingZeros(left);
      case 105 -> Integer.bitCount(left);
      case 106 -> left + right;
      case 107 -> left - right;
      case 108 -> left * right;
      case 113 -> left & right;
      case 114 -> left | right;
      case 115 -> left ^ right;
      case 116 -> left << right % 32;
      case 117 -> left >> right % 32;
      case 118 -> left >>> right % 32;
      case 119 -> Integer.rotateLeft(left, right);
      case 120 -> Integer.rotateRight(left, right);
      default -> compared(op - 70, Integer.compare(left, right), Integer.compareUnsigned(left, right));
    };
  }

  /** INSTRUCTIONS of i64: 80 to 90, 121 to 138. */
  static long longer(int op, long left, long right) {
    if (op >= 127 && op <= 130) {
      return divided(op, left, right);
    }
    return switch (op) {
      case 80 -> left == 0 ? 1 : 0;
      case 121 -> Long.numberOfLeadingZeros(left);
      case 122 -> Long.numberOfTrailingZeros(left);
      case 123 -> Long.bitCount(left);
      case 124 -> left + right;
      case 125 -> left - right;
      case 126 -> left * right;
      case 131 -> left & right;
      case 132 -> left | right;
      case 133 -> left ^ right;
      case 134 -> left << right % 64;
      case 135 -> left >> right % 64;
      case 136 -> left >>> right % 64;
      case 137 -> Long.rotateLeft(left, (int) right);
      case 138 -> Long.rotateRight(left, (int) right);
      default -> compared(op - 81, Long.compare(left, right), Long.compareUnsigned(left, right));
    };
  }

  /** eq, ne, then lt, gt, le, ge, each with and without sign. */
  private static int compared(int kind, int signed, int unsigned) {
    int order = kind % 2 == 0 ? signed : unsigned;
    boolean holds = switch (kind) {
      case 0 -> signed == 0;
      case 1 -> signed != 0;
      case 2, 3 -> order < 0;
      case 4, 5 -> order > 0;
      case 6, 7 -> order <= 0;
      default -> order >= 0;
    };
    return holds ? 1 : 0;
  }

  private static long divided(int op, long left, long right) {
    boolean small = op <= 112;
    if (right == 0) {
      throw new SecondRun.Ended(2);
    }
    if ((op == 109 || op == 127) && right == -1 && left == (small ? Integer.MIN_VALUE : Long.MIN_VALUE)) {
      throw new SecondRun.Ended(3);
    }
    return switch (op) {
      case 109, 127 -> left / right;
      case 110 -> Integer.divideUnsigned((int) left, (int) right);
      case 111, 129 -> left % right;
      case 112 -> Integer.remainderUnsigned((int) left, (int) right);
      case 128 -> Long.divideUnsigned(left, right);
      default -> Long.remainderUnsigned(left, right);
    };
  }

  private SecondNumbers() {
  }
}
