/** Promises 11 to 15: the tale, and where it is wrong. */
public final class TalesTest {
  private static final Class<IllegalArgumentException> ARGUMENT = IllegalArgumentException.class;
  private static final Class<IllegalStateException> STATE = IllegalStateException.class;
  private static final Class<IndexOutOfBoundsException> INDEX = IndexOutOfBoundsException.class;

  public static void main(String[] args) {
    tellAndForget();
    atMostThreeHundred();
    wrongNumbers();
    wrongLists();
    wrongSequences();
    wrongAdditions();
    wrongChoices();
    wrongNests();
    Due.finish();
  }

  private static void tellAndForget() {
    BitNotation codec = new BitNotation();
    Due.answers("tell(-1000)", 1, () -> codec.tell(-1000));
    Due.answers("tell(1000)", 2, () -> codec.tell(1000));
    Due.answers("tell(0)", 3, () -> codec.tell(0));
    for (int number : new int[] {-1001, 1001, Integer.MIN_VALUE, Integer.MAX_VALUE}) {
      Due.refuses("tell(" + number + ")", ARGUMENT, () -> codec.tell(number));
    }
    Due.answers("length()", 3, codec::length);
    Due.tale("after three calls of tell", codec, -1000, 1000, 0);
    for (int index : new int[] {-1, 3, 299, 300, Integer.MIN_VALUE, Integer.MAX_VALUE}) {
      Due.refuses("told(" + index + ")", INDEX, () -> codec.told(index));
    }
    Due.answers("forget()", 3, codec::forget);
    Due.answers("length()", 0, codec::length);
    Due.refuses("told(0)", INDEX, () -> codec.told(0));
    Due.answers("forget()", 0, codec::forget);
    Due.answers("tell(5)", 1, () -> codec.tell(5));
    Due.tale("after forget", codec, 5);
  }

  private static void atMostThreeHundred() {
    BitNotation codec = new BitNotation();
    codec.addNumber(0, 0);
    for (int i = 1; i <= 300; i++) {
      int number = i;
      Due.answers("tell, number " + i, number, () -> codec.tell(number));
    }
    Due.refuses("a 301st number", STATE, () -> codec.tell(0));
    Due.refuses("a 301st number out of range", ARGUMENT, () -> codec.tell(1001));
    Due.answers("length()", 300, codec::length);
    Due.answers("told(299)", 300, () -> codec.told(299));
    Due.answers("wrongAt(0)", 0, () -> codec.wrongAt(0));
    Due.answers("forget()", 300, codec::forget);
  }

  /** Tells the numbers and looks where they are wrong; neither changes bits or tale. */
  private static void wrong(BitNotation codec, int type, int due, int... numbers) {
    Due.tell(codec, numbers);
    Due.answers("wrongAt(" + type + ") of a tale of " + numbers.length, due,
        () -> codec.wrongAt(type));
    Due.tale("after wrongAt", codec, numbers);
    Due.answers("bits() after wrongAt", 0, codec::bits);
  }

  private static void wrongNumbers() {
    BitNotation codec = new BitNotation();
    for (int type : new int[] {0, -1, Integer.MAX_VALUE}) {
      Due.refuses("wrongAt(" + type + ") without types", INDEX, () -> codec.wrongAt(type));
    }
    codec.addNumber(-2, 3);
    for (int type : new int[] {1, -1, 16, Integer.MAX_VALUE, Integer.MIN_VALUE}) {
      Due.refuses("wrongAt(" + type + ")", INDEX, () -> codec.wrongAt(type));
    }
    wrong(codec, 0, 0);
    wrong(codec, 0, -1, -2);
    wrong(codec, 0, -1, 3);
    wrong(codec, 0, 0, -3);
    wrong(codec, 0, 0, 4);
    wrong(codec, 0, 1, 3, 3);
    wrong(codec, 0, 1, 3, 3, 3);
    wrong(codec, 0, 0, 4, 3);
  }

  private static void wrongLists() {
    BitNotation codec = new BitNotation();
    codec.addNumber(-2, 3);
    codec.addList(0, 2, 4);
    codec.addList(0, 0, 0);
    wrong(codec, 1, 0);
    wrong(codec, 1, 0, 1, 0);
    wrong(codec, 1, 0, 5, 0, 0, 0, 0, 0);
    wrong(codec, 1, 1, 2);
    wrong(codec, 1, 2, 2, 0);
    wrong(codec, 1, -1, 2, 0, 0);
    wrong(codec, 1, -1, 4, 3, -2, 0, 1);
    wrong(codec, 1, 3, 4, 3, -2, 4, 4);
    wrong(codec, 1, 3, 2, 0, 0, 9);
    wrong(codec, 2, -1, 0);
    wrong(codec, 2, 0, 1, 0);
    wrong(codec, 2, 1, 0, 0);
  }

  private static void wrongSequences() {
    BitNotation codec = new BitNotation();
    codec.addNumber(0, 5);
    codec.addNumber(-3, 12);
    codec.part(0, false);
    codec.part(1, true);
    codec.part(0, true);
    codec.addSequence();
    wrong(codec, 2, 0);
    wrong(codec, 2, 1, 0);
    wrong(codec, 2, 2, 0, 0);
    wrong(codec, 2, 3, 0, 0, 0);
    wrong(codec, 2, -1, 0, 0, 0, 5);
    wrong(codec, 2, 4, 0, 0, 0, 5, 5);
    wrong(codec, 2, -1, 1, 0, 0, 5, 12);
    wrong(codec, 2, -1, 0, 1, 0, 5, 0);
    wrong(codec, 2, -1, 1, 1, 0, 5, -3, 0);
    wrong(codec, 2, 5, 1, 1, 0, 5, -3);
    wrong(codec, 2, 5, 1, 1, 0, 5, -3, 6);
    wrong(codec, 2, 4, 0, 1, 0, 5, 12);
    wrong(codec, 2, 0, 2, 0, 0, 5);
    wrong(codec, 2, 0, -1, 0, 0, 5);
    wrong(codec, 2, 1, 0, 2, 0, 5);
    wrong(codec, 2, 2, 0, 0, 1, 5, 5);
    wrong(codec, 2, 2, 0, 0, -1, 5, 5);
  }

  private static void wrongAdditions() {
    BitNotation codec = new BitNotation();
    codec.addNumber(0, 5);
    codec.addNumber(-3, 12);
    codec.part(0, true);
    codec.addSequence();
    codec.extend(2, 1);
    codec.extend(2, 0);
    wrong(codec, 2, -1, 0, 0);
    wrong(codec, 2, -1, 0, 1, 12);
    wrong(codec, 2, 2, 0, 1, 13);
    wrong(codec, 2, -1, 0, 2, 12, 5);
    wrong(codec, 2, 3, 0, 2, 12);
    wrong(codec, 2, 3, 0, 2, 12, -1);
    wrong(codec, 2, 4, 0, 2, 12, 5, 0);
    wrong(codec, 2, -1, 1, 2, 5, 12, 0);
    wrong(codec, 2, 2, 1, 2, 12, 5, 0);
    wrong(codec, 2, 1, 0, 3, 12, 5, 0);
    codec.extend(2, 0);
    wrong(codec, 2, -1, 0, 3, 12, 5, 0);
    wrong(codec, 2, 1, 0, 4, 12, 5, 0, 0);
  }

  private static void wrongChoices() {
    BitNotation codec = new BitNotation();
    codec.addNumber(0, 2);
    codec.addNumber(50, 100);
    codec.part(0, false);
    codec.part(1, true);
    codec.part(0, false);
    codec.addChoice();
    wrong(codec, 2, 0);
    wrong(codec, 2, 1, 0);
    wrong(codec, 2, -1, 0, 2);
    wrong(codec, 2, 1, 0, 50);
    wrong(codec, 2, -1, 1, 50);
    wrong(codec, 2, 1, 1, 2);
    wrong(codec, 2, -1, 2, 0);
    wrong(codec, 2, 0, 3, 0);
    wrong(codec, 2, 0, -1, 0);
    wrong(codec, 2, 2, 1, 100, 0);
  }

  private static void wrongNests() {
    BitNotation codec = new BitNotation();
    codec.addNumber(0, 2);
    codec.part(0, true);
    codec.addSequence();
    codec.part(0, false);
    codec.part(1, false);
    codec.addChoice();
    codec.addList(2, 1, 3);
    codec.extend(1, 0);
    wrong(codec, 3, -1, 3, 0, 2, 1, 1, 1, 0, 1, 1, 0, 0);
    wrong(codec, 3, 11, 3, 0, 2, 1, 1, 1, 0, 1, 1, 0, 0, 0);
    wrong(codec, 3, -1, 3, 0, 2, 1, 1, 1, 0, 1, 1, 1, 0, 0);
    wrong(codec, 3, 4, 3, 0, 2, 1, 2, 1, 0, 1, 1, 0, 0);
    wrong(codec, 3, 7, 2, 0, 2, 1, 1, 1, 0, 3);
    wrong(codec, 3, 8, 2, 0, 2, 1, 1, 1, 0, 1, 0);
    chainsOfSixteen();
  }

  /** The deepest nests of types that there can be, by each way of being made of another type. */
  private static void chainsOfSixteen() {
    BitNotation sequences = new BitNotation();
    BitNotation lists = new BitNotation();
    BitNotation choices = new BitNotation();
    BitNotation additions = new BitNotation();
    sequences.addNumber(0, 2);
    lists.addNumber(0, 2);
    choices.addNumber(0, 2);
    additions.addNumber(0, 2);
    for (int i = 1; i < 16; i++) {
      sequences.part(i - 1, false);
      sequences.addSequence();
      lists.addList(i - 1, 1, 1);
      choices.part(i - 1, false);
      choices.addChoice();
      additions.part(0, true);
      additions.addSequence();
      additions.extend(i, i - 1);
    }
    chain("sequences", sequences, "000000000000000 10", 15, row(15, new int[] {0}, 2));
    chain("lists", lists, "10", 0, row(15, new int[] {1}, 2));
    chain("choices", choices, "10", 0, row(15, new int[] {0}, 2));
    StringBuilder bits = new StringBuilder("10");
    for (int i = 1; i < 16; i++) {
      String length = Integer.toBinaryString(256 + bits.length()).substring(1);
      bits.insert(0, "1000" + length);
    }
    chain("additions", additions, bits.toString(), 180, row(15, new int[] {0, 1}, 2));
  }

  private static int[] row(int times, int[] group, int last) {
    int[] row = new int[times * group.length + 1];
    for (int i = 0; i < row.length - 1; i++) {
      row[i] = group[i % group.length];
    }
    row[row.length - 1] = last;
    return row;
  }

  private static void chain(String what, BitNotation codec, String digits, int last, int[] tale) {
    String row = digits.replace(" ", "");
    wrong(codec, 15, -1, tale);
    Due.answers("write(15) of " + what, row.length(), () -> codec.write(15));
    Due.bits("after write(15) of " + what, codec, digits);
    Due.answers("read(15, 3) of " + what, tale.length, () -> codec.read(15, 3));
    Due.tale("after read(15, 3) of " + what, codec, tale);
    codec.flip(row.length() - 1);
    Due.answers("faultAt(15, 3) of " + what, last, () -> codec.faultAt(15, 3));
  }
}
