/** Promises 3, 5, 6, 10, 11, 12: what a MODULE tells once it is MADE, and what stays when another fails. */
public final class MadeTest {
  private static final int I32 = 127;
  private static final int I64 = 126;

  public static void main(String[] args) {
    Due due = Due.begin();
    counts(due);
    exports(due);
    globals(due);
    memory(due);
    table(due);
    stays(due);
    anew(due);
    noneOfBefore(due);
    longName(due);
    sixty(due);
    due.end("MadeTest");
  }

  private static FoldForge made(Due due, Built built) {
    FoldForge x = new FoldForge();
    due.is("module", Due.module(x, built.bytes()), 1);
    return x;
  }

  private static void counts(Due due, FoldForge x, int... wanted) {
    for (int what = 0; what < 6; what++) {
      due.is("count(" + what + ")", x.count(what), wanted[what]);
    }
    due.is("count(-1)", x.count(-1), -1);
    due.is("count(6)", x.count(6), -1);
    due.is("count of the least", x.count(Integer.MIN_VALUE), -1);
    due.is("count of the greatest", x.count(Integer.MAX_VALUE), -1);
  }

  private static void counts(Due due) {
    counts(due, made(due, new Built()), 0, 0, -1, -1, 0, 0);
    counts(due, made(due, new Built().table(0).memory(0)), 0, 0, 0, 0, 0, 0);
    counts(due, made(due, new Built().type(0).type(0).type(I32).function(1).function(0).table(7, 9)
        .memory(1, 2).global(I32, 0, 65, 1).global(I64, 1, 66, 2).global(I32, 1, 65, 1).global(I32, 1, 65, 1)
        .export("a", 0, 0).export("b", 0, 0).export("c", 0, 0).export("d", 0, 0).export("e", 0, 1)),
        3, 2, 7, 1, 4, 5);
  }

  private static void exports(Due due) {
    FoldForge x = made(due, new Built().type(0).type(I64, I32, I64, I32).type(I32, I64).function(2, 65, 0)
        .function(1, 66, 0).function(0).table(1).memory(1).global(I32, 0, 65, 0).global(I32, 0, 65, 0)
        .export("one", 0, 1).export("", 1, 0).export("m\u00FF", 2, 0).export("g", 3, 1)
        .export("none", 0, 2).export("zero", 0, 0));
    int[][] wanted = {{0, 1, 3, 3, I64}, {1, 0, 0, -9, -9}, {2, 0, 2, -9, -9}, {3, 1, 1, -9, -9},
        {0, 2, 4, 0, 0}, {0, 0, 4, 1, I32}};
    String[] names = {"one", "", "m\u00FF", "g", "none", "zero"};
    for (int i = 0; i < wanted.length; i++) {
      for (int what = 0; what < 3; what++) {
        due.is("export(" + i + ", " + what + ")", x.export(i, what), wanted[i][what]);
      }
      due.is("export(" + i + ", -1)", x.export(i, -1), wanted[i][3]);
      due.is("export(" + i + ", -2)", x.export(i, -2), wanted[i][4]);
      for (int k = 0; k < names[i].length(); k++) {
        due.is("a byte of its name", x.export(i, 3 + k), names[i].charAt(k));
      }
      due.is("behind its name", x.export(i, 3 + names[i].length()), -9);
      due.is("far behind its name", x.export(i, Integer.MAX_VALUE), -9);
      due.is("export(" + i + ", -3)", x.export(i, -3), -9);
      due.is("export of the least", x.export(i, Integer.MIN_VALUE), -9);
    }
    for (int what = -3; what < 6; what++) {
      due.is("export(6, " + what + ")", x.export(6, what), -9);
      due.is("export(-1, " + what + ")", x.export(-1, what), -9);
    }
    due.is("export of the least", x.export(Integer.MIN_VALUE, 0), -9);
    due.is("export of the greatest", x.export(Integer.MAX_VALUE, 0), -9);
  }

  private static void globals(Due due) {
    FoldForge x = made(due, new Built().global(I32, 0, 65, -5).global(I64, 1, 66, Long.MIN_VALUE)
        .global(I32, 1, 65, Integer.MAX_VALUE).global(I64, 0, 66, 4294967295L));
    due.is("an i32 with its sign", x.global(0), -5);
    due.is("an i64", x.global(1), Long.MIN_VALUE);
    due.is("the greatest i32", x.global(2), Integer.MAX_VALUE);
    due.is("beyond an i32", x.global(3), 4294967295L);
    due.is("none such", x.global(4), 0);
    due.is("none such", x.global(-1), 0);
    due.is("none such", x.global(Integer.MAX_VALUE), 0);
    due.is("none such", x.global(Integer.MIN_VALUE), 0);
  }

  private static void memory(Due due) {
    FoldForge x = made(due, new Built().memory(2));
    due.is("first", x.memory(0), 0);
    due.is("last", x.memory(131071), 0);
    due.is("behind", x.memory(131072), -1);
    due.is("ahead", x.memory(-1), -1);
    due.is("least", x.memory(Integer.MIN_VALUE), -1);
    due.is("greatest", x.memory(Integer.MAX_VALUE), -1);
    due.is("of no pages", made(due, new Built().memory(0, 2)).memory(0), -1);
    due.is("of no MEMORY", made(due, new Built()).memory(0), -1);
  }

  private static void table(Due due) {
    FoldForge x = made(due, new Built().type(0).function(0).function(0).function(0).table(6)
        .element(65, 1, 2, 1, 1).element(65, 2, 0, 2).element(65, 6).element(65, 5, 1));
    int[] wanted = {-1, 2, 0, 2, -1, 1};
    for (int i = 0; i < 6; i++) {
      due.is("table(" + i + ")", x.table(i), wanted[i]);
    }
    due.is("table(6)", x.table(6), -2);
    due.is("table(-1)", x.table(-1), -2);
    due.is("table of the least", x.table(Integer.MIN_VALUE), -2);
    due.is("table of the greatest", x.table(Integer.MAX_VALUE), -2);
    FoldForge most = made(due, new Built().type(0).function(0).table(100, 100).element(65, 99, 0));
    due.is("table(98)", most.table(98), -1);
    due.is("table(99)", most.table(99), 0);
    due.is("table(100)", most.table(100), -2);
    due.is("of no TABLE", made(due, new Built()).table(0), -2);
    due.is("of an empty TABLE", made(due, new Built().table(0)).table(0), -2);
  }

  private static Built first() {
    return new Built().type(0).type(I32, I32).function(1, 65, 1, 64, 0).function(0).table(3).memory(1)
        .global(I32, 1, 65, 9).export("f", 0, 0).element(65, 2, 1);
  }

  private static void asFirst(Due due, FoldForge x) {
    counts(due, x, 2, 2, 3, 2, 1, 1);
    due.is("its name", x.export(0, 3), 'f');
    due.is("what it gives", x.export(0, -2), I32);
    due.is("global", x.global(0), 9);
    due.is("table", x.table(2), 1);
    due.is("memory", x.memory(131071), 0);
    due.is("run", x.run(0, 10), 0);
    due.is("no more pages", x.outcome(0), -1);
  }

  /** MALFORMED, REFUSED, INVALID, a TRAP, no such length: the MODULE stays. */
  private static void stays(Due due) {
    FoldForge x = made(due, first());
    due.is("run", x.run(0, 10), 0);
    due.is("pages there were", x.outcome(0), 1);
    asFirst(due, x);
    byte[] other = new Built().type(I64, I64).function(0, 66, 1).global(I64, 0, 66, 3)
        .export("other", 0, 0).table(9).memory(0).bytes();
    byte[] broken = other.clone();
    broken[other.length - 1] = 12;
    due.is("MALFORMED", Due.module(x, broken), -1);
    asFirst(due, x);
    broken[other.length - 1] = 42;
    due.is("REFUSED", Due.module(x, broken), -2);
    asFirst(due, x);
    due.is("REFUSED by VALID", Due.module(x, new Built().table(101).memory(0).bytes()), -2);
    asFirst(due, x);
    due.is("INVALID", Due.module(x, new Built().type(I64).function(0).memory(0).bytes()), -3);
    asFirst(due, x);
    Built trap = new Built().type(0).function(0).function(0).function(0).table(1).memory(0)
        .global(I32, 0, 65, 4).element(65, 0, 0).element(65, 1, 0);
    due.is("a TRAP", Due.module(x, trap.bytes()), -4);
    due.is("place", x.place(), -1);
    asFirst(due, x);
    Due.feed(x, other);
    due.is("no such length", x.module(-1), 0);
    due.is("no such length", x.module(4000), 0);
    asFirst(due, x);
    due.is("the tape is as it was", x.module(other.length), 1);
    counts(due, x, 1, 1, 9, 0, 1, 1);
    due.is("another name", x.export(0, 2), 5);
    due.is("another GLOBAL", x.global(0), 3);
    due.is("another TABLE", x.table(2), -1);
  }

  /** A MODULE that is MADE begins anew: GLOBALS as told, MEMORY 0, TABLE empty. */
  private static void anew(Due due) {
    FoldForge x = new FoldForge();
    byte[] setsAll = new Built().type(0).function(0, 65, 0, 65, 127, 54, 0, 0xFF, 0xFF, 3, 65, 8, 36, 0)
        .memory(1).table(2).element(65, 0, 0, 0).global(I32, 1, 65, 7).export("f", 0, 0).bytes();
    for (int round = 0; round < 2; round++) {
      due.is("module", Due.module(x, setsAll), 1);
      due.is("GLOBAL as told", x.global(0), 7);
      due.is("MEMORY of 0", x.memory(65532), 0);
      due.is("beyond the MEMORY", x.run(0, 10), 2);
      due.is("what comes behind the TRAP is not done", x.global(0), 7);
    }
    byte[] stores = new Built().type(0).function(0, 65, 0, 65, 127, 54, 0, 0xFC, 0xFF, 3, 65, 8, 36, 0)
        .memory(1).table(2).element(65, 0, 0, 0).global(I32, 1, 65, 7).export("f", 0, 0).bytes();
    due.is("module", Due.module(x, stores), 1);
    due.is("run", x.run(0, 10), 0);
    due.is("MEMORY", x.memory(65532), 255);
    due.is("GLOBAL", x.global(0), 8);
    due.is("TABLE", x.table(1), 0);
    due.is("the same once more", Due.module(x, stores), 1);
    due.is("MEMORY", x.memory(65532), 0);
    due.is("GLOBAL", x.global(0), 7);
    due.is("another", Due.module(x, new Built().memory(2).table(2).bytes()), 1);
    due.is("MEMORY", x.memory(65532), 0);
    due.is("TABLE", x.table(1), -1);
  }

  /** A MODULE without a MEMORY, a TABLE: none of those before it count. */
  private static void noneOfBefore(Due due) {
    FoldForge x = new FoldForge();
    for (int round = 0; round < 3; round++) {
      byte[] whole = new Built().type(0).function(0).memory(1, 1).table(3, 3).element(65, 1, 0)
          .global(I32, 0, 65, 3).export("f", 0, 0).bytes();
      due.is("module", Due.module(x, whole), 1);
      due.is("memory", x.memory(0), 0);
      due.is("table", x.table(1), 0);
      for (int k = 0; k < 2; k++) {
        due.is("empty module", Due.module(x, Due.header()), 1);
        counts(due, x, 0, 0, -1, -1, 0, 0);
        due.is("memory", x.memory(0), -1);
        due.is("table", x.table(1), -2);
        due.is("global", x.global(0), 0);
        due.is("export", x.export(0, 0), -9);
        due.is("run", x.run(0, 1), -1);
      }
    }
  }

  /** A name's number of two bytes, and one of five. */
  private static void longName(Due due) {
    StringBuilder name = new StringBuilder();
    for (int k = 0; k < 300; k++) {
      name.append((char) (k % 251));
    }
    FoldForge x = made(due, new Built().memory(0).export(name.toString(), 2, 0));
    due.is("its bytes", x.export(0, 2), 300);
    for (int k = 0; k < 300; k += 13) {
      due.is("byte " + k, x.export(0, 3 + k), k % 251);
    }
    due.is("behind it", x.export(0, 303), -9);
    byte[] five = Due.join(Due.header(), Due.bytes(5, 3, 1, 0, 0),
        Due.section(7, Due.bytes(1, 0x82, 0x80, 0x80, 0x80, 0, 97, 98, 2, 0x80, 0)));
    due.is("module", Due.module(x, five), 1);
    due.is("its bytes", x.export(0, 2), 2);
    due.is("the first", x.export(0, 3), 97);
    due.is("the second", x.export(0, 4), 98);
    due.is("behind it", x.export(0, 5), -9);
  }

  /** As many things of each kind as there may be. */
  private static void sixty(Due due) {
    Built built = new Built().table(60).memory(1);
    for (int k = 0; k < 60; k++) {
      built.type(k % 2 == 0 ? I32 : I64, k % 3 == 0 ? I64 : I32);
      built.function(k, k % 2 == 0 ? 65 : 66, k);
      built.global(I32, 1, 65, k);
      built.export("e" + (char) ('0' + k), k % 2 == 0 ? 0 : 3, 59 - k);
      built.element(65, 59 - k, k);
    }
    FoldForge x = made(due, built);
    counts(due, x, 60, 60, 60, 1, 60, 60);
    for (int k = 0; k < 60; k++) {
      due.is("global " + k, x.global(k), k);
      due.is("table " + k, x.table(k), 59 - k);
    }
    for (int k = 0; k < 60; k++) {
      due.is("export " + k, x.export(k, 1), 59 - k);
      due.is("its name", x.export(k, 4), '0' + k);
      due.is("run", x.run(k, 1), k % 2 == 0 ? 0 : -1);
    }
    due.is("outcome", x.outcome(0), 1);
  }
}
