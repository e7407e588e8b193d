/** MODULES written byte by byte: where a part of them stands can be told from what comes behind it. */
final class Raw {
  /** Where the content of the first SECTION begins, if its size is below 128. */
  static final int CONTENT = 10;

  static byte[] after(int... numbers) {
    return Due.join(Due.header(), Due.bytes(numbers));
  }

  static byte[] only(int id, int... content) {
    return only(id, Due.bytes(content));
  }

  static byte[] only(int id, byte[] content) {
    return Due.join(Due.header(), Due.section(id, content));
  }

  /** A MODULE of one FUNCTION that takes and gives nothing; what its CODE has comes last. */
  static byte[] code(byte[] content) {
    byte[] sized = Due.join(Due.unsigned(content.length), content);
    return Due.join(Due.header(), Due.bytes(1, 4, 1, 96, 0, 0, 3, 2, 1, 0),
        Due.section(10, Due.join(Due.bytes(1), sized)));
  }

  static byte[] code(int... content) {
    return code(Due.bytes(content));
  }

  /** Of {@link #code(byte[])}: where what the CODE has begins. */
  static int codeAt(byte[] content) {
    return code(content).length - content.length;
  }

  /** What READING of a CODE comes to, and where: a place within what the CODE has, -1: none. */
  static void codeIs(Due due, String what, byte[] content, int answer, int place) {
    due.module(what, code(content), answer, place < 0 ? -1 : codeAt(content) + place);
  }

  static byte[] times(int many, int... numbers) {
    byte[] all = new byte[many * numbers.length];
    for (int k = 0; k < all.length; k++) {
      all[k] = (byte) numbers[k % numbers.length];
    }
    return all;
  }

  private Raw() {
  }
}
