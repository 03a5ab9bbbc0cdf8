/** What the tests share: each call with the answer, or the exception, that is due. */
final class Due {
  private static int wrong = 0;

  interface Call {
    int answer();
  }

  private Due() {
  }

  static void answers(String call, int due, Call made) {
    try {
      int got = made.answer();
      holds(call + " answered " + got + ", due is " + due, got == due);
    } catch (RuntimeException e) {
      holds(call + " threw " + e.getClass().getName() + ", due is " + due, false);
    }
  }

  /** The class must be this very one: a class below it would be the machine's own exception. */
  static void refuses(String call, Class<? extends RuntimeException> due, Call made) {
    try {
      int got = made.answer();
      holds(call + " answered " + got + ", due is " + due.getName(), false);
    } catch (RuntimeException e) {
      holds(call + " threw " + e.getClass().getName() + ", due is " + due.getName(),
          e.getClass() == due);
    }
  }

  static void holds(String complaint, boolean held) {
    if (!held) {
      wrong++;
      System.out.println(complaint);
    }
  }

  static void finish() {
    System.out.println(wrong == 0 ? "all answers are as due" : wrong + " answers are not as due");
    if (wrong != 0) {
      System.exit(1);
    }
  }

  /** Tells the numbers in place of the tale. */
  static void tell(BitNotation codec, int... numbers) {
    codec.forget();
    for (int number : numbers) {
      codec.tell(number);
    }
  }

  static void tale(String when, BitNotation codec, int... due) {
    StringBuilder got = new StringBuilder();
    int length = codec.length();
    for (int i = 0; i < length; i++) {
      got.append(' ').append(codec.told(i));
    }
    StringBuilder wanted = new StringBuilder();
    for (int number : due) {
      wanted.append(' ').append(number);
    }
    holds(when + ": the tale is" + got + ", due is" + wanted, got.toString().equals(wanted.toString()));
  }

  /** The bits are given as digits; spaces between them are passed over. */
  static void bits(String when, BitNotation codec, String due) {
    String got = bitsOf(codec);
    String wanted = due.replace(" ", "");
    holds(when + ": the bits are " + got + ", due is " + wanted, got.equals(wanted));
  }

  static String bitsOf(BitNotation codec) {
    StringBuilder row = new StringBuilder();
    int size = codec.bits();
    for (int i = 0; i < size; i++) {
      row.append(codec.bit(i));
    }
    return row.toString();
  }
}
