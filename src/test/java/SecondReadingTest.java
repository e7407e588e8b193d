import java.nio.charset.StandardCharsets;

/**
 * All promises: what the class answers is compared with a second reading of the document (the Second.. classes), over
 * MODULES and PROGRAMS that are made up: fine ones, ill ones, and such as had some of their bytes changed.
 *
 * <p>Told two numbers, it goes over other objects than those of a usual test: the first one, and how many.
 */
public final class SecondReadingTest {
  private static final int OBJECTS = 4000;
  // what an object answers to later calls is free
  private static final int CALLS = 512;
  // the second reading goes along trees: it stands in itself far deeper than the class may
  private static final long STACK = 1L << 27;
  private static final int MODULES = 2;
  private static final int PROGRAMS = 4;
  private static final int SAMPLES = 16;

  private final Due due;
  private final Dice dice;
  private final String told;
  private final long[] arguments = new long[8];
  private final FoldForge x = new FoldForge();
  private int calls = 0;
  private int valid = 0;
  private int fine = 0;

  private SecondReadingTest(Due due, long seed) {
    this.due = due;
    dice = new Dice(seed);
    told = "object " + seed + ": ";
  }

  public static void main(String[] args) throws InterruptedException {
    long from = args.length == 2 ? Long.parseLong(args[0]) : 1;
    long many = args.length == 2 ? Long.parseLong(args[1]) : OBJECTS;
    Due due = Due.begin();
    boolean[] through = {false};
    Thread thread = new Thread(null, () -> {
      objects(due, from, many);
      through[0] = true;
    }, "second", STACK);
    thread.start();
    thread.join();
    due.is("all objects were gone through", through[0] ? 1 : 0, 1);
    due.end("SecondReadingTest");
  }

  private static void objects(Due due, long from, long many) {
    long valid = 0;
    long fine = 0;
    for (long seed = from; seed < from + many; seed++) {
      SecondReadingTest one = new SecondReadingTest(due, seed);
      if (one.dice.often(500)) {
        one.modules();
        one.programs();
      } else {
        one.programs();
        one.modules();
      }
      valid += one.valid;
      fine += one.fine;
    }
    due.is("many MODULES are VALID", valid > many * MODULES / 3 ? 1 : 0, 1);
    due.is("many PROGRAMS are fine", fine > many * PROGRAMS / 3 ? 1 : 0, 1);
  }

  private void is(String call, long got, long want) {
    calls++;
    if (calls <= CALLS) {
      due.is(got == want ? call : told + call, got, want);
    }
  }

  private void feed(byte[] bytes) {
    calls += (bytes.length + 19) / 20;
    Due.feed(x, bytes);
  }

  private void someArguments() {
    for (int k = 0; k < arguments.length; k++) {
      if (dice.often(400)) {
        arguments[k] = dice.often(300) ? dice.below(70) : dice.longer();
        is("argument", x.argument(k, arguments[k]), 1);
      }
    }
  }

  // MODULES

  private void modules() {
    SecondModule kept = null;
    for (int k = 0; k < MODULES; k++) {
      byte[] bytes = ModuleMaker.make(dice);
      if (bytes.length > 4000) {
        continue;
      }
      SecondModule second = new SecondModule(bytes);
      int answer = second.answer();
      feed(bytes);
      is("module", x.module(bytes.length), answer);
      is("place", x.place(), second.place());
      if (answer == 1) {
        kept = second;
        valid++;
      }
      if (kept != null) {
        counts(kept);
        exports(kept);
        state(kept);
        runs(kept);
      }
    }
  }

  private void counts(SecondModule second) {
    is("count(0)", x.count(0), second.types.size());
    is("count(1)", x.count(1), second.codes.size());
    is("count(2)", x.count(2), second.tables.isEmpty() ? -1 : second.places.length);
    is("count(4)", x.count(4), second.globals.size());
    is("count(5)", x.count(5), second.exports.size());
    is("count(6)", x.count(6), -1);
  }

  private void exports(SecondModule second) {
    for (int i = 0; i < second.exports.size(); i++) {
      SecondModule.Export export = second.exports.get(i);
      is("export, kind", x.export(i, 0), export.kind);
      is("export, number", x.export(i, 1), export.number);
      is("export, length", x.export(i, 2), export.name.length);
      for (int k = 0; k <= export.name.length; k++) {
        is("export, name", x.export(i, 3 + k), k < export.name.length ? export.name[k] & 255 : -9);
      }
      boolean function = export.kind == 0;
      SecondModule.Type type = function ? second.typeOf((int) export.number) : null;
      is("export, takes", x.export(i, -1), function ? type.takes.length : -9);
      is("export, gives", x.export(i, -2), function ? type.gives : -9);
    }
    is("export, none", x.export(second.exports.size(), 0), -9);
  }

  private void state(SecondModule second) {
    is("count(3)", x.count(3), second.memories.isEmpty() ? -1 : second.bytes.length / 65536);
    for (int i = 0; i <= second.worths.length; i++) {
      is("global", x.global(i), i < second.worths.length ? second.worths[i] : 0);
    }
    for (int k = 0; k < 3; k++) {
      int i = dice.below(second.places.length + 1);
      is("table", x.table(i), i < second.places.length ? second.places[i] : -2);
    }
    int bytes = second.bytes.length;
    for (int k = 0; k < SAMPLES && bytes > 0; k++) {
      // where the made up CODES put most
      int i = dice.of(dice.below(80), 65520 + dice.below(40), 131060 + dice.below(40));
      is("memory", x.memory(i), i < bytes ? second.bytes[i] & 255 : -1);
    }
    is("memory, none", x.memory(bytes), -1);
  }

  private void runs(SecondModule second) {
    for (int i = 0; i < second.exports.size(); i++) {
      someArguments();
      SecondModule.Export export = second.exports.get(i);
      int steps = dice.often(200) ? dice.below(40) : dice.of(500, 3000, 20000);
      if (export.kind != 0 || second.typeOf((int) export.number).takes.length > 8) {
        is("run", x.run(i, steps), -1);
        continue;
      }
      SecondRun run = new SecondRun(second, (int) export.number, arguments, steps);
      is("run", x.run(i, steps), run.answer);
      is("outcome(0)", x.outcome(0), run.gave);
      is("outcome(1)", x.outcome(1), run.taken);
      is("outcome(2)", x.outcome(2), run.trap);
    }
    state(second);
  }

  // PROGRAMS

  private void programs() {
    SecondProgram kept = null;
    for (int k = 0; k < PROGRAMS; k++) {
      String text = ProgramMaker.make(dice);
      if (text.isEmpty() || text.length() > 4000) {
        continue;
      }
      SecondProgram second = new SecondProgram(text);
      int answer = second.answer();
      feed(text.getBytes(StandardCharsets.ISO_8859_1));
      is("program", x.program(text.length()), answer);
      if (answer > 0) {
        kept = second;
        fine++;
      }
      for (int f = 0; kept != null && f <= kept.functions.size(); f++) {
        someArguments();
        call(new SecondCall(kept, f, arguments), f);
      }
    }
  }

  private void call(SecondCall second, int f) {
    is("call", x.call(f), second.answer);
    if (second.answer >= 0) {
      is("outcome(0)", x.outcome(0), second.gave);
      is("outcome(1)", x.outcome(1), 0);
      is("outcome(2)", x.outcome(2), second.error);
      is("spent(0)", x.spent(0), second.conses);
      is("spent(1)", x.spent(1), second.calls);
      is("spent(2)", x.spent(2), second.deepest);
    }
  }
}
