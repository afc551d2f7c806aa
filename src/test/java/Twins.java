/** Two telegraphs made alike: when one refuses a call, both go on to answer alike. */
final class Twins {
  interface Maker {
    TypeWheelTelegraph make();
  }

  private Twins() {}

  /** The call throws just this exception, and changes nothing, be it seen or hidden. */
  static void refuse(Maker maker, Class<?> exception, String name, Object... arguments) {
    StringBuilder call = new StringBuilder(name);
    for (Object argument : arguments) {
      call.append(' ').append(argument);
    }
    refuseCall(maker, exception, call.toString());
  }

  /** The call is written as its name and its arguments. */
  static void refuseCall(Maker maker, Class<?> exception, String call) {
    TypeWheelTelegraph first = maker.make();
    TypeWheelTelegraph second = maker.make();
    for (TypeWheelTelegraph x : new TypeWheelTelegraph[] {first, second}) {
      Due.equal(call, Calls.ask(x, call), "throws." + exception.getSimpleName());
    }
    Due.equal("what can be undone after " + call, undone(first), undone(maker.make()));
    Due.equal("what goes on after " + call, goneOn(second), goneOn(maker.make()));
  }

  /** The states that undo() brings back, down to the oldest. */
  private static String undone(TypeWheelTelegraph x) {
    StringBuilder seen = new StringBuilder(Calls.watch(x));
    for (int i = 0; i < 11; i++) {
      seen.append("undo=").append(Calls.answer(x, "undo")).append('\n');
      seen.append(Calls.watch(x));
    }
    return seen.toString();
  }

  /** What can only be seen by changing it: the limit, the named pulses, the input buffer. */
  private static String goneOn(TypeWheelTelegraph x) {
    StringBuilder seen = new StringBuilder();
    seen.append("run=").append(Calls.answer(x, "run", 90)).append('\n').append(Calls.watch(x));
    seen.append("setCorrection=").append(Calls.answer(x, "setCorrection", 3)).append('\n');
    for (int i = 0; i < 21; i++) {
      seen.append("lose=").append(Calls.answer(x, "lose", 1)).append('\n');
    }
    seen.append("append=").append(Calls.answer(x, "append", 0, 0, 0, 0, 0)).append('\n');
    seen.append("truncate=").append(Calls.answer(x, "truncate", 0)).append('\n');
    return seen.toString();
  }

  /** The input buffer's bytes are seen by what they load. */
  static void refuseInput(Maker maker, Class<?> exception, String name, Object... arguments) {
    refuse(maker, exception, name, arguments);
    TypeWheelTelegraph x = maker.make();
    Calls.answer(x, name, arguments);
    TypeWheelTelegraph y = maker.make();
    Due.equal("load() after " + name, Calls.answer(x, "load"), Calls.answer(y, "load"));
    Due.equal("what is loaded after " + name, Calls.watch(x), Calls.watch(y));
  }
}
