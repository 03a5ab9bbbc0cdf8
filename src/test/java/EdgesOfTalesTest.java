/** Promises 11 to 15, sentence by sentence: the last that is allowed, and the first that is not. */
public final class EdgesOfTalesTest {
  private static final Class<IllegalArgumentException> ARGUMENT = Refusal.ARGUMENT;
  private static final Class<IllegalStateException> STATE = Refusal.STATE;
  private static final Class<IndexOutOfBoundsException> INDEX = Refusal.INDEX;
  private static final int LOWEST = Integer.MIN_VALUE;
  private static final int HIGHEST = Integer.MAX_VALUE;

  public static void main(String[] args) {
    numbersThatAreAllowed();
    numbersThatAreNot();
    threeHundredNumbers();
    forgetNothingAndAll();
    forgetTheTaleAlone();
    lengthOfNothingAndOfTheMost();
    toldAtTheEnds();
    wrongAtNoSuchType();
    wrongAtChangesNothing();
    emptyTale();
    numbersOutOfRange();
    sizesOutOfRange();
    flagsOutOfRange();
    additionsOutOfRange();
    choicesOutOfRange();
    taleThatEndsTooEarly();
    taleThatGoesOn();
    firstWrongNumberCounts();
    longestTales();
    Due.finish();
  }

  // ---- promise 11

  private static void numbersThatAreAllowed() {
    int[] allowed = {-1000, -999, -1, 0, 1, 999, 1000};
    BitNotation codec = new BitNotation();
    for (int i = 0; i < allowed.length; i++) {
      int number = allowed[i];
      int index = i;
      Due.answers("tell(" + number + ")", i + 1, () -> codec.tell(number));
      Due.answers("told(" + i + ")", number, () -> codec.told(index));
    }
    Due.tale("behind seven numbers", codec, allowed);
  }

  private static void numbersThatAreNot() {
    for (int number : new int[] {-1001, 1001, LOWEST, HIGHEST}) {
      String call = "tell(" + number + ")";
      Refusal.of(call, ARGUMENT, BitNotation::new, x -> x.tell(number));
      Refusal.of(call, ARGUMENT, States::some, x -> x.tell(number));
      Refusal.of(call + " behind 300 numbers", ARGUMENT, States::full, x -> x.tell(number));
    }
  }

  private static void threeHundredNumbers() {
    BitNotation codec = new BitNotation();
    for (int i = 1; i <= 300; i++) {
      int due = i;
      Due.answers("number " + i + " of the tale", due, () -> codec.tell(-due));
    }
    Due.answers("told(299)", -300, () -> codec.told(299));
    for (int number : new int[] {-1000, 0, 1000}) {
      Refusal.of("number 301 of the tale", STATE, () -> States.fillTale(new BitNotation()),
          x -> x.tell(number));
      Refusal.of("number 301 of the tale, of 16 types", STATE, States::full, x -> x.tell(number));
    }
  }

  // ---- promises 12 and 13

  private static void forgetNothingAndAll() {
    BitNotation codec = new BitNotation();
    Due.answers("forget() of nothing", 0, codec::forget);
    codec.tell(7);
    Due.answers("forget() of one number", 1, codec::forget);
    Due.answers("forget() again", 0, codec::forget);
    States.fillTale(codec);
    Due.answers("forget() of 300 numbers", 300, codec::forget);
    Due.answers("length() behind it", 0, codec::length);
    Due.refuses("told(0) behind it", INDEX, () -> codec.told(0));
    Due.answers("tell behind it", 1, () -> codec.tell(-5));
    Due.tale("behind it", codec, -5);
  }

  private static void forgetTheTaleAlone() {
    BitNotation codec = States.some();
    codec.forget();
    Due.answers("types() behind forget()", 4, codec::types);
    Due.bits("behind forget()", codec, "1 101 100");
    Due.answers("part behind forget()", 3, () -> codec.part(0, false));
    Due.answers("read behind forget()", 3, () -> codec.read(1, 0));
  }

  private static void lengthOfNothingAndOfTheMost() {
    Due.answers("length() of nothing", 0, new BitNotation()::length);
    Due.answers("length() of 4 numbers", 4, States.some()::length);
    Due.answers("length() of 300 numbers", 300, States.full()::length);
    BitNotation read = States.full();
    read.read(2, 0);
    Due.answers("length() behind read", 57, read::length);
  }

  // ---- promise 14

  private static void toldAtTheEnds() {
    for (int none : new int[] {0, -1, 299, 300, LOWEST, HIGHEST}) {
      Refusal.of("told(" + none + ") of an empty tale", INDEX, BitNotation::new, x -> x.told(none));
    }
    Due.answers("told(0) of 4 numbers", 2, () -> States.some().told(0));
    Due.answers("told(3) of 4 numbers", 9, () -> States.some().told(3));
    for (int none : new int[] {4, 5, -1, 299, 300, LOWEST, HIGHEST}) {
      Refusal.of("told(" + none + ") of 4 numbers", INDEX, States::some, x -> x.told(none));
    }
    Due.answers("told(299) of 300 numbers", 299, () -> States.full().told(299));
    for (int none : new int[] {300, -1, 301, LOWEST, HIGHEST}) {
      Refusal.of("told(" + none + ") of 300 numbers", INDEX, States::full, x -> x.told(none));
    }
    BitNotation shorter = States.full();
    shorter.read(2, 0);
    Due.answers("told(56) of 57 numbers read", 19, () -> shorter.told(56));
    Due.refuses("told(57) of 57 numbers read in place of 300", INDEX, () -> shorter.told(57));
  }

  // ---- promise 15

  private static void wrongAtNoSuchType() {
    for (int none : new int[] {4, -1, 5, 15, 16, LOWEST, HIGHEST}) {
      Refusal.of("wrongAt(" + none + ")", INDEX, States::some, x -> x.wrongAt(none));
    }
    for (int none : new int[] {16, -1, LOWEST, HIGHEST}) {
      Refusal.of("wrongAt(" + none + ") of 16 types", INDEX, States::full, x -> x.wrongAt(none));
    }
    wrong(States.some(), 0, 0, 6);
    wrong(States.some(), 3, -1, 0, 5);
    Due.answers("wrongAt(15) of 16 types", 1, () -> States.full().wrongAt(15));
  }

  private static void wrongAtChangesNothing() {
    BitNotation codec = States.some();
    for (int i = 0; i < 4; i++) {
      codec.wrongAt(i);
    }
    Due.tale("behind wrongAt", codec, 2, 5, 4, 9);
    Due.bits("behind wrongAt", codec, "1 101 100");
    Due.answers("part behind wrongAt", 3, () -> codec.part(0, false));
  }

  private static void wrong(BitNotation codec, int type, int due, int... numbers) {
    Due.tell(codec, numbers);
    StringBuilder call = new StringBuilder("wrongAt(").append(type).append(") of");
    for (int number : numbers) {
      call.append(' ').append(number);
    }
    Due.answers(call.toString(), due, () -> codec.wrongAt(type));
    if (due == -1) {
      Due.answers("write as for " + call, 1, () -> codec.write(type) >= 0 ? 1 : 0);
    } else {
      Due.refuses("write as for " + call, STATE, () -> codec.write(type));
    }
  }

  private static void emptyTale() {
    for (int i = 0; i < 4; i++) {
      wrong(States.some(), i, 0);
    }
    BitNotation codec = new BitNotation();
    codec.addNumber(5, 5);
    codec.addList(0, 0, 0);
    wrong(codec, 0, 0);
    wrong(codec, 1, 0);
  }

  private static void numbersOutOfRange() {
    BitNotation codec = new BitNotation();
    codec.addNumber(-7, 7);
    codec.addNumber(-1000, 1000);
    codec.addNumber(0, 0);
    wrong(codec, 0, -1, -7);
    wrong(codec, 0, -1, 7);
    wrong(codec, 0, 0, -8);
    wrong(codec, 0, 0, 8);
    wrong(codec, 0, 0, -1000);
    wrong(codec, 0, 0, 1000);
    wrong(codec, 1, -1, -1000);
    wrong(codec, 1, -1, 1000);
    wrong(codec, 2, -1, 0);
    wrong(codec, 2, 0, -1);
    wrong(codec, 2, 0, 1);
  }

  private static void sizesOutOfRange() {
    BitNotation codec = new BitNotation();
    codec.addNumber(0, 3);
    codec.addList(0, 2, 3);
    codec.addList(0, 0, 8);
    wrong(codec, 1, 0, 1, 0);
    wrong(codec, 1, -1, 2, 0, 3);
    wrong(codec, 1, -1, 3, 0, 3, 1);
    wrong(codec, 1, 0, 4, 0, 3, 1, 2);
    wrong(codec, 2, 0, -1);
    wrong(codec, 2, -1, 0);
    wrong(codec, 2, -1, 8, 0, 1, 2, 3, 0, 1, 2, 3);
    wrong(codec, 2, 8, 8, 0, 1, 2, 3, 0, 1, 2, 4);
    wrong(codec, 2, 1, 8, -1, 1, 2, 3, 0, 1, 2, 3);
    wrong(codec, 2, 0, 9, 0, 1, 2, 3, 0, 1, 2, 3, 0);
    wrong(codec, 2, 0, 1000);
    wrong(codec, 2, 0, -1000);
  }

  private static BitNotation withFlags() {
    BitNotation codec = new BitNotation();
    codec.addNumber(0, 3);
    for (int i = 0; i < 6; i++) {
      codec.part(0, true);
    }
    codec.addSequence();
    return codec;
  }

  private static void flagsOutOfRange() {
    wrong(withFlags(), 1, -1, 0, 0, 0, 0, 0, 0, 0);
    wrong(withFlags(), 1, -1, 1, 1, 1, 1, 1, 1, 0, 0, 1, 2, 3, 0, 1);
    for (int i = 0; i < 6; i++) {
      for (int number : new int[] {-1, 2, 1000, -1000}) {
        int[] tale = new int[7];
        tale[i] = number;
        wrong(withFlags(), 1, i, tale);
      }
      int[] tale = new int[8];
      tale[i] = 1;
      tale[7] = 3;
      wrong(withFlags(), 1, -1, tale);
      tale[7] = 4;
      wrong(withFlags(), 1, 7, tale);
    }
  }

  private static void additionsOutOfRange() {
    for (int has = 0; has <= 3; has++) {
      BitNotation codec = new BitNotation();
      codec.addNumber(0, 3);
      codec.part(0, true);
      codec.addSequence();
      for (int i = 0; i < has; i++) {
        codec.extend(1, 0);
      }
      for (int there = 0; there <= 4; there++) {
        int[] tale = new int[2 + there];
        tale[1] = there;
        wrong(codec, 1, there <= has ? -1 : 1, tale);
      }
      wrong(codec, 1, 1, 0, -1);
      wrong(codec, 1, 1, 0, 1000);
      wrong(codec, 1, 1, 0, -1000);
    }
  }

  private static void choicesOutOfRange() {
    for (int count = 1; count <= 6; count++) {
      BitNotation codec = new BitNotation();
      codec.addNumber(4, 5);
      for (int i = 0; i < count; i++) {
        codec.part(0, false);
      }
      codec.addChoice();
      for (int chosen = -1; chosen <= 6; chosen++) {
        wrong(codec, 1, chosen >= 0 && chosen < count ? -1 : 0, chosen, 4);
      }
      wrong(codec, 1, 1, count - 1, 3);
      wrong(codec, 1, 1, count - 1, 6);
      wrong(codec, 1, 1, count - 1);
    }
  }

  /** A list of sequences with a flag, a choice, and an addition: a tale that tells all there is. */
  private static BitNotation withAll() {
    BitNotation codec = new BitNotation();
    codec.addNumber(0, 3);
    codec.addNumber(-5, -5);
    codec.part(0, false);
    codec.part(1, false);
    codec.addChoice();
    codec.part(2, true);
    codec.part(1, false);
    codec.addSequence();
    codec.extend(3, 2);
    codec.addList(3, 1, 2);
    return codec;
  }

  private static final int[] ALL = {2, 1, 1, 0, 3, -5, 1, -5, 0, 0, -5};

  private static int[] first(int count) {
    return java.util.Arrays.copyOf(ALL, count);
  }

  private static void taleThatEndsTooEarly() {
    for (int left = 0; left < ALL.length; left++) {
      wrong(withAll(), 4, left, first(left));
    }
    wrong(withAll(), 4, -1, ALL);
  }

  private static void taleThatGoesOn() {
    for (int number : new int[] {0, -5, 1000, -1000}) {
      int[] tale = first(ALL.length + 1);
      tale[ALL.length] = number;
      wrong(withAll(), 4, ALL.length, tale);
      wrong(withAll(), 0, 1, 3, number);
      wrong(withAll(), 0, 1, 3, number, number, number);
    }
    int[] longer = first(ALL.length + 100);
    wrong(withAll(), 4, ALL.length, longer);
    BitNotation codec = new BitNotation();
    codec.addNumber(0, 0);
    codec.addList(0, 0, 0);
    wrong(codec, 1, 1, 0, 0);
  }

  /** Each number in its turn is too small or too great, whatever comes behind it. */
  private static void firstWrongNumberCounts() {
    for (int i = 0; i < ALL.length; i++) {
      for (int number : new int[] {1000, -1000}) {
        int[] tale = first(ALL.length);
        tale[i] = number;
        wrong(withAll(), 4, i, tale);
        int[] longer = java.util.Arrays.copyOf(tale, ALL.length + 1);
        wrong(withAll(), 4, i, longer);
        int[] shorter = java.util.Arrays.copyOf(tale, i + 1);
        wrong(withAll(), 4, i, shorter);
        tale[ALL.length - 1] = number;
        wrong(withAll(), 4, i, tale);
      }
    }
  }

  private static void longestTales() {
    for (int numbers : new int[] {239, 240}) {
      BitNotation codec = new BitNotation();
      int type = States.typeOfNumbers(codec, numbers);
      States.tellNumbers(codec, numbers);
      Due.answers("length() of a tale for the test", numbers, codec::length);
      Due.answers("wrongAt of " + numbers + " numbers", -1, () -> codec.wrongAt(type));
      Due.answers("write of " + numbers + " numbers", 1, () -> codec.write(type));
      States.fillTale(codec);
      Due.answers("wrongAt of 300 numbers", numbers, () -> codec.wrongAt(type));
      Due.refuses("write of 300 numbers", STATE, () -> codec.write(type));
      Due.answers("read of " + numbers + " numbers", numbers, () -> codec.read(type, 3));
      Due.answers("the last number read", 4, () -> codec.told(numbers - 1));
      Due.refuses("told behind the last", INDEX, () -> codec.told(numbers));
      Due.answers("wrongAt of what was read", -1, () -> codec.wrongAt(type));
    }
  }
}
