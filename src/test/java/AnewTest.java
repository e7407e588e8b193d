import java.util.ArrayList;
import java.util.List;

/**
 * Promises 3, 8, 13 and 14: what came before on the same object does not count: each READING, each MODULE that is
 * MADE, each PROGRAM and each RUN begins anew, also behind one that was ill, or the greatest there may be.
 */
public final class AnewTest {
  private static final int I32 = 127;
  private static final int I64 = 126;
  static final String[] PROGRAMS = {"fun f(a: int): int = a;",
      "fun g(a: int, b: int): int = a - f(b); fun f(b: int): int = b * 2;",
      "fun f(a: int): int = g(a);", "fun f(a: int): int = let y = a in z;", "fun f(a: int): int = if a then 1 else (if",
      "fun f(l: list): int = match l with nil -> 0 | h, t -> nil;", "fun", "fun f(a: int, b: int, c: int, d: int): int = a + d;",
      "fun f(a: int): int = match cons(a, cons(1, nil)) with nil -> 0 | h, t -> match t with nil -> 1 | i, t -> h + i;",
      "fun f(a: int): int = 1 + f(a);", "fun f(a: int): int = (1 + 2) * f(a - 1 / a);", "fun h(a: int): list = nil;",
      "fun f(a: int): int = do(&g, a); fun g(a: int): int = if a < 1 then 0 else do(&g, a - 1) + 1;"};

  public static void main(String[] args) {
    Due due = Due.begin();
    modulesBehindOneAnother(due);
    programsBehindOneAnother(due);
    greatModules(due);
    faultsWithinBlocks(due);
    invalidWithinBlocks(due);
    spentRuns(due);
    errors(due);
    greatPrograms(due);
    namesOfBefore(due);
    due.end("AnewTest");
  }

  /** MODULES of all kinds: fine ones, ill ones, such as meet a TRAP. */
  static List<byte[]> modules() {
    List<byte[]> all = new ArrayList<>();
    all.add(Due.header());
    all.add(Raw.after(12));
    all.add(Raw.code(0, 2, 64, 65, 0, 4, 64, 2, 64, 42));
    all.add(Raw.code(0, 2, 64, 3, 64, 3, 64, 1));
    all.add(Raw.code(0, 66, 127, 66, 126, 66, 125, 66, 124, 66, 127, 66, 126, 11));
    all.add(Raw.code(0, 2, 64, 11, 3, 64, 11, 2, 64, 65, 0, 13, 0, 11, 11));
    all.add(Raw.code(0, 2, 64, 0, 11, 2, 64, 26, 11, 11));
    all.add(Raw.code(0, 2, 64, 2, 64, 2, 64, 0, 26, 66, 1, 106, 11, 11, 11, 11));
    all.add(Raw.only(1, 2, 96, 3, 127, 126, 127, 1, 126, 96, 1, 5, 0));
    all.add(Raw.only(4, 2, 112, 1, 3, 4, 112, 1, 5, 6));
    all.add(Raw.only(6, 2, 127, 0, 65, 5, 11, 126, 1, 66, 6, 12));
    all.add(new Built().table(101).bytes());
    all.add(new Built().memory(3).bytes());
    all.add(new Built().type(I32).function(0).memory(2).table(9).bytes());
    all.add(new Built().table(2, 5).memory(1, 2).global(I32, 0, 65, 4).export("t", 1, 0).export("m", 2, 0).bytes());
    all.add(new Built().type(0).function(0).table(5).element(65, 0, 0, 0).element(65, 4, 0, 0).bytes());
    all.add(new Built().type(0).function(0).function(0).table(5).element(65, 0, 1, 0).element(65, 3, 1, 1).bytes());
    all.add(new Built().type(I64, I64).type(I32, I32, I32).function(0, Due.bytes(1, 2, I64), Due.bytes(32, 0, 34, 1, 34, 2,
        32, 1, 124)).function(1, Due.bytes(2, 1, I64, 1, I32), Due.bytes(32, 0, 34, 3, 32, 1, 16, 2, 32, 3, 106))
        .function(1, 2, I32, 32, 0, 32, 1, 13, 0, 26, 65, 3, 11).export("a", 0, 0).export("b", 0, 1).export("c", 0, 2)
        .bytes());
    all.add(new Built().type(I32, I32).function(0, 32, 0, 65, 8, 54, 0, 0, 65, 1, 64, 0).memory(1).export("f", 0, 0)
        .bytes());
    all.add(new Built().type(I32, I32).function(0, 65, 8, 32, 0, 54, 0, 0, 35, 0, 65, 1, 106, 36, 0, 65, 1, 64, 0)
        .memory(1, 2).global(I32, 1, 65, 40).export("f", 0, 0).bytes());
    all.add(new Built().type(0).function(0, 3, 64, 65, 1, 12, 0, 11).export("f", 0, 0).bytes());
    all.add(new Built().type(I32, I32, I32).function(0, 2, 64, 2, 64, 32, 0, 14, 1, 0, 1, 11, 65, 7, 15, 11, 65, 8)
        .export("f", 0, 0).bytes());
    all.add(new Built().type(I32, I32).function(0, 32, 0, 16, 0).export("f", 0, 0).export("same", 0, 0).bytes());
    return all;
  }

  /** What a MODULE answers, and, where it is the MODULE then, all that it tells. */
  private static List<Long> told(FoldForge x, byte[] module) {
    List<Long> all = new ArrayList<>();
    int answer = Due.module(x, module);
    all.add((long) answer);
    all.add((long) x.place());
    if (answer != 1) {
      return all;
    }
    for (int what = 0; what < 6; what++) {
      all.add((long) x.count(what));
      all.add(x.global(what));
      all.add((long) x.table(what));
    }
    for (int i = 0; i < 4; i++) {
      for (int what = -2; what < 6; what++) {
        all.add((long) x.export(i, what));
      }
      x.argument(0, 3 - i);
      x.argument(1, i);
      for (int steps : new int[] {20000, 7}) {
        int ran = x.run(i, steps);
        all.add((long) ran);
        for (int what = 0; what < 3 && ran >= 0; what++) {
          all.add(x.outcome(what));
        }
      }
    }
    all.add((long) x.memory(8));
    all.add((long) x.memory(65535));
    all.add((long) x.memory(65536));
    all.add((long) x.count(3));
    all.add(x.global(0));
    return all;
  }

  private static void same(Due due, String what, List<Long> is, List<Long> wanted) {
    due.is(what + ": how many answers", is.size(), wanted.size());
    for (int k = 0; k < Math.min(is.size(), wanted.size()); k++) {
      due.is(what + ": answer " + k, is.get(k), wanted.get(k));
    }
  }

  private static void modulesBehindOneAnother(Due due) {
    List<byte[]> all = modules();
    for (int i = 0; i < all.size(); i++) {
      for (int j = 0; j < all.size(); j++) {
        List<Long> wanted = told(new FoldForge(), all.get(j));
        FoldForge x = new FoldForge();
        told(x, all.get(i));
        same(due, "MODULE " + j + " behind " + i, told(x, all.get(j)), wanted);
        same(due, "MODULE " + j + " behind itself", told(x, all.get(j)), wanted);
      }
    }
  }

  private static List<Long> toldBy(FoldForge x, String program) {
    List<Long> all = new ArrayList<>();
    int answer = Due.program(x, program);
    all.add((long) answer);
    for (int f = 0; f < 3 && answer > 0; f++) {
      for (int k = 0; k < 4; k++) {
        x.argument(k, 3 + k);
      }
      int called = x.call(f);
      all.add((long) called);
      for (int what = 0; what < 3 && called >= 0; what++) {
        all.add(x.outcome(what));
        all.add((long) x.spent(what));
      }
    }
    return all;
  }

  private static void programsBehindOneAnother(Due due) {
    for (int i = 0; i < PROGRAMS.length; i++) {
      for (int j = 0; j < PROGRAMS.length; j++) {
        List<Long> wanted = toldBy(new FoldForge(), PROGRAMS[j]);
        FoldForge x = new FoldForge();
        toldBy(x, PROGRAMS[i]);
        same(due, "PROGRAM " + j + " behind " + i, toldBy(x, PROGRAMS[j]), wanted);
        same(due, "PROGRAM " + j + " behind itself", toldBy(x, PROGRAMS[j]), wanted);
      }
    }
  }

  /** So many INSTRUCTIONS, labels, numbers of ELEMENTS that those of two would have no room. */
  private static void greatModules(Due due) {
    byte[] brs = Due.join(Due.bytes(0), Raw.times(1950, 12, 0));
    byte[] tables = Due.bytes(0, 0);
    for (int k = 0; k < 60; k++) {
      tables = Due.join(tables, Due.bytes(14, 60), new byte[61]);
    }
    byte[] nops = Due.join(Due.bytes(0), Raw.times(3900, 1));
    byte[] values = Due.join(Due.bytes(0), Raw.times(1950, 66, 127));
    byte[] small = new Built().type(I32, I32).function(0, 2, I32, 65, 5, 2, I32, 65, 6, 32, 0, 14, 1, 0, 1, 11, 106, 11)
        .table(60).element(65, 0, 0).element(65, 9, 0, 0).export("f", 0, 0).bytes();
    for (byte[] great : new byte[][] {brs, tables, nops, values}) {
      for (int last : new int[] {11, 6}) {
        byte[] module = Raw.code(Due.join(great, Due.bytes(last)));
        for (int count = 1; count <= 2; count++) {
          FoldForge x = new FoldForge();
          int wanted = Due.module(new FoldForge(), module);
          for (int k = 0; k < count; k++) {
            due.is("a great one", Due.module(x, module), wanted);
          }
          small(due, x, small);
        }
      }
    }
    byte[] listed = Due.bytes(60);
    for (int k = 0; k < 60; k++) {
      listed = Due.join(listed, Due.bytes(0, 65, 0, 11, 58), new byte[58]);
    }
    FoldForge x = new FoldForge();
    for (int k = 0; k < 2; k++) {
      due.is("many ELEMENTS", Due.module(x, Raw.only(9, listed)), -3);
    }
    small(due, x, small);
  }

  private static void small(Due due, FoldForge x, byte[] small) {
    due.is("a small one", Due.module(x, small), 1);
    x.argument(0, 0);
    due.is("run", x.run(0, 100), 0);
    due.is("gives", x.outcome(0), 11);
    x.argument(0, 1);
    due.is("run", x.run(0, 100), 0);
    due.is("gives", x.outcome(0), 6);
    due.is("table", x.table(10), 0);
    due.is("table", x.table(11), -1);
  }

  private static void faultsWithinBlocks(Due due) {
    for (int deep = 0; deep <= 20; deep++) {
      for (int last : new int[] {6, 42, 5}) {
        FoldForge x = new FoldForge();
        byte[] ill = Raw.code(Due.join(Due.bytes(0), Raw.times(deep, 2, 64), Due.bytes(last)));
        for (int k = 0; k < 3; k++) {
          due.is("ill within " + deep, Due.module(x, ill), last == 42 ? -2 : -1);
          due.is("fine behind it", Due.module(x, Raw.code(0, 11)), 1);
        }
        byte[] most = Raw.code(Due.join(Due.bytes(0), Raw.times(20, 2, 64), Raw.times(21, 11)));
        due.is("20 behind it", Due.module(x, most), 1);
        due.is("ill within " + deep, Due.module(x, ill), last == 42 ? -2 : -1);
        due.is("5 alone behind it", Due.module(x, Raw.code(0, 5, 11)), -1);
      }
    }
  }

  private static void invalidWithinBlocks(Due due) {
    byte[] returns = new Built().type(I64).function(0, 2, 64, 66, 9, 15, 11, 0).export("f", 0, 0).bytes();
    byte[] most = Raw.code(Due.join(Due.bytes(0), Raw.times(20, 2, 64), Due.bytes(12, 20), Raw.times(21, 11)));
    byte[] tooMany = Raw.code(Due.join(Due.bytes(0), Raw.times(20, 2, 64), Due.bytes(12, 21), Raw.times(21, 11)));
    for (int deep = 0; deep <= 20; deep++) {
      FoldForge x = new FoldForge();
      byte[] ill = Raw.code(Due.join(Due.bytes(0), Raw.times(deep, 2, 64), Due.bytes(65, 0, 26, 26, 0), Raw.times(deep + 1,
          11)));
      byte[] illDead = Raw.code(Due.join(Due.bytes(0), Raw.times(deep, 2, 64), Due.bytes(0, 66, 0, 69), Raw.times(deep + 1,
          11)));
      for (int k = 0; k < 4; k++) {
        due.is("ill within " + deep, Due.module(x, k % 2 == 0 ? ill : illDead), -3);
      }
      due.is("fine behind it", Due.module(x, returns), 1);
      due.is("run", x.run(0, 9), 0);
      due.is("gives", x.outcome(0), 9);
      due.is("ill within " + deep, Due.module(x, illDead), -3);
      due.is("20 behind it", Due.module(x, most), 1);
      due.is("ill within " + deep, Due.module(x, illDead), -3);
      due.is("no 22nd label", Due.module(x, tooMany), -3);
      due.is("nothing to take", Due.module(x, Raw.code(0, 26, 11)), -3);
    }
  }

  /** What a RUN that was SPENT, or met a TRAP, left behind is none of the next one's. */
  private static void spentRuns(Due due) {
    byte[] many = Raw.times(1200, 32, 1);
    Built built = new Built().type(I32, I32, I32).type(I32, I32, I32, I32)
        .function(0, Due.bytes(1, 48, I32), Due.join(many, Due.bytes(32, 0, 32, 1, 16, 1), Raw.times(1200, 106)))
        .function(0, 32, 0, 69, 4, 64, 0, 11, 32, 0, 65, 1, 107, 32, 1, 16, 0)
        .function(1, Due.bytes(1, 50, I32), Due.bytes(32, 0, 69, 4, I32, 32, 1, 5, 32, 0, 65, 1, 107, 32, 1, 32, 2, 16, 2, 11,
            32, 2, 106)).export("f", 0, 0).export("deep", 0, 2);
    FoldForge x = new FoldForge();
    due.is("module", Due.module(x, built.bytes()), 1);
    for (int round = 0; round < 12; round++) {
      x.argument(0, round % 2 == 0 ? 30 : 4);
      x.argument(1, 5);
      due.is("SPENT, or a TRAP", x.run(0, 20000), round % 2 == 0 ? 1 : 2);
      x.argument(0, 63);
      x.argument(2, 1);
      due.is("deep", x.run(1, 20000), 0);
      due.is("deep gives", x.outcome(0), 5 + 64);
      due.is("deep takes", x.outcome(1), 63 * 11 + 6);
    }
  }

  private static void errors(Due due) {
    StringBuilder e = new StringBuilder("if n < 1 then 1 / a else f(n - 1, a, b, c)");
    for (int k = 0; k < 26; k++) {
      e.insert(0, "1 + 1 * g(n, a, b, ").append(')');
    }
    FoldForge x = new FoldForge();
    due.is("program", Due.program(x, "fun f(n: int, a: int, b: int, c: int): int = " + e + ";"
        + "fun g(a: int, b: int, c: int, d: int): int = d;"), 2);
    for (int round = 0; round < 30; round++) {
      x.argument(0, 59);
      x.argument(1, 0);
      due.is("an ERROR in the 60th", x.call(0), 2);
      due.is("an ERROR in the 60th: which", x.outcome(2), 1);
      due.is("an ERROR in the 60th: in one another", x.spent(2), 60);
      x.argument(0, 58);
      x.argument(1, 1);
      due.is("none", x.call(0), 0);
      due.is("none: gives", x.outcome(0), 59 * 26 + 1);
    }
  }

  /** 400 ATOMS each: those of two would be too many, and their CODE would have no room. */
  private static void greatPrograms(Due due) {
    String[] great = {"fun f(a: int): int = 1" + "+1".repeat(399) + ";", "fun f(a: int): int = a*" + "-".repeat(398) + "1;",
        "fun f(a: int): int = " + "(let b=a in b)+".repeat(133) + "a;",
        "fun f(a: int): int = " + "f(a)+".repeat(199) + "nil+1;", "fun f(a: int): int = 1" + "+1".repeat(399) + "+1;"};
    int[] answers = {1, 1, 1, -1 - (21 + 5 * 199), -1 - (21 + 801) + 1};
    int[] gives = {400, 3, 133 * 3 + 3};
    FoldForge x = new FoldForge();
    for (int round = 0; round < 2; round++) {
      for (int k = 0; k < great.length; k++) {
        due.is("PROGRAM " + k, Due.program(x, great[k]), answers[k]);
        if (k < 3) {
          x.argument(0, 3);
          due.is("call", x.call(0), 0);
          due.is("gives", x.outcome(0), gives[k]);
        }
      }
    }
  }

  private static void namesOfBefore(Due due) {
    FoldForge x = new FoldForge();
    StringBuilder twenty = new StringBuilder();
    for (int k = 0; k < 20; k++) {
      twenty.append("fun f").append(k).append("(a").append(k).append(": int, b: int): int = f19(a").append(k).append(", b);");
    }
    due.is("20 DEFINITIONS", Due.program(x, twenty.toString()), 20);
    due.is("20 DEFINITIONS", Due.program(x, twenty.toString()), 20);
    for (String ill : new String[] {"f19(1, 2)", "f1(1, 2)", "do(&f0, 1)", "a0", "a19"}) {
      int place = 21 + (ill.startsWith("do") ? 4 : 0);
      due.is(ill, Due.program(x, "fun g(z: int): int = " + ill + ";"), -1 - place);
    }
    String none = twenty.toString().replace("f19(a7,", "f20(a7,");
    due.is("a 21st that is not there", Due.program(x, none), -1 - none.indexOf("f20"));
    none = twenty.toString().replace("f19(a19,", "a(a19,");
    due.is("a FUNCTION that is not there", Due.program(x, none), -1 - none.indexOf("a(a19"));
    due.is("20 DEFINITIONS", Due.program(x, twenty.toString()), 20);
  }
}
