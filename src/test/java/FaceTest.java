/** Promises 1, 2, 7, 9, 15 and what every call answers before there is a MODULE or a PROGRAM. */
public final class FaceTest {
  public static void main(String[] args) {
    Due due = Due.begin();
    newObject(due);
    feed(due);
    arguments(due);
    due.end("FaceTest");
  }

  private static void newObject(Due due) {
    FoldForge x = new FoldForge();
    due.is("place()", x.place(), -1);
    for (int what = -2; what < 8; what++) {
      due.is("count", x.count(what), -1);
      due.is("export", x.export(0, what), -9);
      due.is("outcome", x.outcome(what), 0);
      due.is("spent", x.spent(what), 0);
      due.is("global", x.global(what), 0);
      due.is("memory", x.memory(what), -1);
      due.is("table", x.table(what), -2);
      due.is("run", x.run(what, 1), -1);
      due.is("call", x.call(what), -1);
    }
    due.is("program(0)", x.program(0), 0);
    due.is("program(1)", x.program(1), 0);
    due.is("module(1)", x.module(1), 0);
    due.is("module(-1)", x.module(-1), 0);
    due.is("module(0)", x.module(0), -1);
    due.is("place()", x.place(), 0);
  }

  private static void feed(Due due) {
    FoldForge x = new FoldForge();
    for (int k = 1; k <= 200; k++) {
      due.is("feed", x.feed(k, -k, 0, 1 << 31, -1), 20L * k);
    }
    due.is("feed on a full tape", x.feed(0, 0, 0, 0, 0), -1);
    due.is("module beyond", x.module(4001), 0);
    due.is("program beyond", x.program(4001), 0);
    due.is("still full", x.feed(0, 0, 0, 0, 0), -1);
    due.is("module of it", x.module(4000), -1);
    due.is("empty again", x.feed(0, 0, 0, 0, 0), 20);
    due.is("module beyond", x.module(21), 0);
    due.is("nothing happened", x.feed(0, 0, 0, 0, 0), 40);
    due.is("a part of it", x.module(3), -1);
    due.is("empty again", x.feed(0, 0, 0, 0, 0), 20);
    due.is("program of it", x.program(5), -1);
    due.is("empty again", x.feed(0, 0, 0, 0, 0), 20);
  }

  private static void arguments(Due due) {
    FoldForge x = new FoldForge();
    due.is("argument(-1)", x.argument(-1, 5), 0);
    due.is("argument(8)", x.argument(8, 5), 0);
    due.is("argument(7)", x.argument(7, 5), 1);
    byte[] get7 = Due.bytes(32, 7);
    int[] eight = Due.takes(126, 126, 126, 126, 126, 126, 126, 126);
    due.is("module", Due.module(x, Due.one(126, eight, get7)), 1);
    due.is("run", x.run(0, 1), 0);
    due.is("argument 7", x.outcome(0), 5);
    due.is("argument(7)", x.argument(7, Long.MIN_VALUE), 1);
    due.is("run", x.run(0, 1), 0);
    due.is("argument 7", x.outcome(0), Long.MIN_VALUE);
    byte[] get0 = Due.bytes(32, 0);
    due.is("module", Due.module(x, Due.one(126, eight, get0)), 1);
    due.is("run", x.run(0, 1), 0);
    due.is("argument 0 at first", x.outcome(0), 0);
    due.is("module", Due.module(x, Due.one(127, Due.takes(127), get0)), 1);
    due.is("argument(0)", x.argument(0, 0x1_8000_0001L), 1);
    due.is("run", x.run(0, 1), 0);
    due.is("the low bits, with sign", x.outcome(0), 0xFFFFFFFF80000001L);
    due.is("outcome(1)", x.outcome(1), 1);
    due.is("outcome(2)", x.outcome(2), 0);
    due.is("outcome(3)", x.outcome(3), 0);
    due.is("outcome(-1)", x.outcome(-1), 0);
  }
}
