import java.util.function.ToIntFunction;

/**
 * A call that is refused: what it throws, and that nothing has changed behind it. Each look is taken
 * at new objects in the same state, of which one has not made the call, one has made it once, and one
 * twice: some looks change what they look at (the draft shows itself only so), and an object is good
 * for 512 calls.
 */
final class Refusal {
  static final Class<IllegalArgumentException> ARGUMENT = IllegalArgumentException.class;
  static final Class<IllegalStateException> STATE = IllegalStateException.class;
  static final Class<IndexOutOfBoundsException> INDEX = IndexOutOfBoundsException.class;

  private static final int HALF_A_TALE = 150;
  private static final int HALF_THE_BITS = 120;

  /** Makes a new object, in the same state every time. */
  interface State {
    BitNotation make();
  }

  private interface Look {
    void at(BitNotation codec, StringBuilder seen);
  }

  private static final Look[] LOOKS = {
    Refusal::lookAtTypes,
    (codec, seen) -> lookAtTale(codec, seen, 0),
    (codec, seen) -> lookAtTale(codec, seen, HALF_A_TALE),
    (codec, seen) -> lookAtBits(codec, seen, 0),
    (codec, seen) -> lookAtBits(codec, seen, HALF_THE_BITS),
    (codec, seen) -> lookAtDraft(codec, seen, BitNotation::addSequence),
    (codec, seen) -> lookAtDraft(codec, seen, BitNotation::addChoice),
    Refusal::lookAtAdditions,
  };

  private Refusal() {
  }

  /** The call is refused in that state, for that cause alone, and again behind that. */
  static void of(String call, Class<? extends RuntimeException> due, State state,
      ToIntFunction<BitNotation> made) {
    for (Look look : LOOKS) {
      String wanted = seen(look, state.make());
      BitNotation once = state.make();
      Due.refuses(call, due, () -> made.applyAsInt(once));
      compare(call, wanted, seen(look, once));
      BitNotation twice = state.make();
      Due.refuses(call, due, () -> made.applyAsInt(twice));
      Due.refuses(call + ", again", due, () -> made.applyAsInt(twice));
      compare(call + ", twice,", wanted, seen(look, twice));
    }
  }

  private static String seen(Look look, BitNotation codec) {
    StringBuilder seen = new StringBuilder();
    look.at(codec, seen);
    return seen.toString();
  }

  private static void compare(String call, String wanted, String got) {
    Due.holds(call + " has changed what other calls answer:" + got + ", due is" + wanted,
        got.equals(wanted));
  }

  private static void ask(BitNotation codec, StringBuilder seen, ToIntFunction<BitNotation> call) {
    seen.append(' ');
    try {
      seen.append(call.applyAsInt(codec));
    } catch (RuntimeException e) {
      seen.append(e.getClass().getSimpleName());
    }
  }

  private static void lookAtTypes(BitNotation codec, StringBuilder seen) {
    int types = codec.types();
    seen.append(' ').append(types);
    for (int i = 0; i < types; i++) {
      int type = i;
      ask(codec, seen, x -> x.leastBits(type));
      ask(codec, seen, x -> x.mostBits(type));
      ask(codec, seen, x -> x.wrongAt(type));
      for (int known = 0; known <= 3; known++) {
        int some = known;
        ask(codec, seen, x -> x.faultAt(type, some));
      }
    }
  }

  private static void lookAtTale(BitNotation codec, StringBuilder seen, int from) {
    int length = codec.length();
    seen.append(' ').append(length);
    for (int i = from; i < Math.min(length, from + HALF_A_TALE); i++) {
      int index = i;
      ask(codec, seen, x -> x.told(index));
    }
  }

  private static void lookAtBits(BitNotation codec, StringBuilder seen, int from) {
    int bits = codec.bits();
    seen.append(' ').append(bits);
    for (int i = from; i < Math.min(bits, from + HALF_THE_BITS); i++) {
      int place = i;
      ask(codec, seen, x -> x.bit(place));
    }
  }

  /** The measures of the type that is made of the draft tell its parts, and which are optional. */
  private static void lookAtDraft(BitNotation codec, StringBuilder seen,
      ToIntFunction<BitNotation> finish) {
    ask(codec, seen, finish);
    ask(codec, seen, x -> x.leastBits(x.types() - 1));
    ask(codec, seen, x -> x.mostBits(x.types() - 1));
    for (int i = 0; i < 7; i++) {
      ask(codec, seen, x -> x.part(0, false));
    }
    ask(codec, seen, finish);
    ask(codec, seen, x -> x.mostBits(x.types() - 1));
  }

  private static void lookAtAdditions(BitNotation codec, StringBuilder seen) {
    int types = codec.types();
    for (int i = 0; i < types; i++) {
      int type = i;
      for (int j = 0; j < 4; j++) {
        ask(codec, seen, x -> x.extend(type, 0));
      }
      ask(codec, seen, x -> x.mostBits(type));
    }
  }
}
