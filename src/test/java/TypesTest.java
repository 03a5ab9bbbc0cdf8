/** Promises 1 to 10: a new object, and its types. */
public final class TypesTest {
  private static final Class<IllegalArgumentException> ARGUMENT = IllegalArgumentException.class;
  private static final Class<IllegalStateException> STATE = IllegalStateException.class;
  private static final Class<IndexOutOfBoundsException> INDEX = IndexOutOfBoundsException.class;

  public static void main(String[] args) {
    newObject();
    numbers();
    widthsOfNumbers();
    lists();
    limitsOfLists();
    parts();
    sequences();
    limitsOfSequences();
    choices();
    limitsOfChoices();
    limitsOfTales();
    extensions();
    refusedExtensions();
    extensionsUpToTheLimit();
    extensionsThatReachLaterTypes();
    atMostSixteenTypes();
    Due.finish();
  }

  private static void newObject() {
    BitNotation codec = new BitNotation();
    Due.answers("types() of a new object", 0, codec::types);
    Due.answers("length() of a new object", 0, codec::length);
    Due.answers("bits() of a new object", 0, codec::bits);
    Due.refuses("addSequence() of a new object", STATE, codec::addSequence);
    Due.refuses("addChoice() of a new object", STATE, codec::addChoice);
    for (int type : new int[] {0, -1, 16, Integer.MIN_VALUE, Integer.MAX_VALUE}) {
      Due.refuses("leastBits(" + type + ") without types", INDEX, () -> codec.leastBits(type));
      Due.refuses("mostBits(" + type + ") without types", INDEX, () -> codec.mostBits(type));
    }
  }

  private static void numbers() {
    BitNotation codec = new BitNotation();
    Due.answers("addNumber(-1000, 1000)", 0, () -> codec.addNumber(-1000, 1000));
    Due.answers("addNumber(1000, 1000)", 1, () -> codec.addNumber(1000, 1000));
    Due.answers("addNumber(-1000, -1000)", 2, () -> codec.addNumber(-1000, -1000));
    int[][] wrong = {{-1001, 0}, {0, 1001}, {1001, 1001}, {-1001, -1001}, {3, 2}, {1000, -1000},
        {Integer.MIN_VALUE, Integer.MAX_VALUE}, {Integer.MAX_VALUE, Integer.MIN_VALUE}};
    for (int[] bounds : wrong) {
      Due.refuses("addNumber(" + bounds[0] + ", " + bounds[1] + ")", ARGUMENT,
          () -> codec.addNumber(bounds[0], bounds[1]));
    }
    Due.answers("types() after refusals", 3, codec::types);
  }

  private static void widthsOfNumbers() {
    int[] values = {1, 2, 3, 4, 5, 8, 9, 16, 17, 512, 513, 1024, 1025, 2001};
    int[] widths = {0, 1, 2, 2, 3, 3, 4, 4, 5, 9, 10, 10, 11, 11};
    BitNotation codec = new BitNotation();
    for (int i = 0; i < values.length; i++) {
      int type = codec.addNumber(-1000, -1001 + values[i]);
      Due.answers("leastBits of " + values[i] + " values", widths[i], () -> codec.leastBits(type));
      Due.answers("mostBits of " + values[i] + " values", widths[i], () -> codec.mostBits(type));
    }
    for (int type : new int[] {14, -1, 16, Integer.MAX_VALUE, Integer.MIN_VALUE}) {
      Due.refuses("leastBits(" + type + ")", INDEX, () -> codec.leastBits(type));
      Due.refuses("mostBits(" + type + ")", INDEX, () -> codec.mostBits(type));
    }
  }

  private static void lists() {
    BitNotation codec = new BitNotation();
    Due.refuses("addList without types", INDEX, () -> codec.addList(0, 0, 8));
    codec.addNumber(0, 6);
    Due.answers("addList(0, 0, 8)", 1, () -> codec.addList(0, 0, 8));
    sizes("0 to 8 things", codec, 1, 4, 28);
    Due.answers("addList(0, 2, 5)", 2, () -> codec.addList(0, 2, 5));
    sizes("2 to 5 things", codec, 2, 8, 17);
    Due.answers("addList(0, 8, 8)", 3, () -> codec.addList(0, 8, 8));
    sizes("8 things", codec, 3, 24, 24);
    Due.answers("addList(0, 0, 0)", 4, () -> codec.addList(0, 0, 0));
    sizes("no things", codec, 4, 0, 0);
    Due.answers("addList(2, 1, 2)", 5, () -> codec.addList(2, 1, 2));
    sizes("1 or 2 lists", codec, 5, 9, 35);
    for (int of : new int[] {6, -1, Integer.MAX_VALUE, Integer.MIN_VALUE}) {
      Due.refuses("addList(" + of + ", 0, 1)", INDEX, () -> codec.addList(of, 0, 1));
      Due.refuses("addList(" + of + ", 3, 2)", INDEX, () -> codec.addList(of, 3, 2));
    }
    int[][] wrong = {{-1, 1}, {9, 9}, {0, 9}, {3, 2}, {8, 7}, {-1, -1},
        {Integer.MIN_VALUE, Integer.MAX_VALUE}, {Integer.MAX_VALUE, Integer.MIN_VALUE}};
    for (int[] bounds : wrong) {
      Due.refuses("addList(0, " + bounds[0] + ", " + bounds[1] + ")", ARGUMENT,
          () -> codec.addList(0, bounds[0], bounds[1]));
    }
    Due.answers("types() after refusals", 6, codec::types);
  }

  private static void sizes(String what, BitNotation codec, int type, int least, int most) {
    Due.answers("leastBits of " + what, least, () -> codec.leastBits(type));
    Due.answers("mostBits of " + what, most, () -> codec.mostBits(type));
  }

  private static void limitsOfLists() {
    BitNotation codec = new BitNotation();
    codec.addNumber(0, 31);
    codec.addList(0, 6, 6);
    Due.answers("a list of 240 bits", 2, () -> codec.addList(1, 8, 8));
    sizes("the list of 240 bits", codec, 2, 240, 240);
    Due.refuses("a list of 241 bits", STATE, () -> codec.addList(1, 7, 8));
    Due.refuses("a list of sizes out of range, and too long", ARGUMENT,
        () -> codec.addList(2, 8, 9));
    Due.answers("a list of no long things", 3, () -> codec.addList(2, 0, 0));
    Due.answers("types()", 4, codec::types);
  }

  private static void parts() {
    BitNotation codec = new BitNotation();
    Due.refuses("part(0, true) without types", INDEX, () -> codec.part(0, true));
    codec.addNumber(0, 1);
    for (int of : new int[] {1, -1, Integer.MAX_VALUE, Integer.MIN_VALUE}) {
      Due.refuses("part(" + of + ", true)", INDEX, () -> codec.part(of, true));
    }
    for (int i = 1; i <= 6; i++) {
      boolean optional = i % 2 == 0;
      Due.answers("part " + i, i, () -> codec.part(0, optional));
    }
    Due.refuses("a seventh part", STATE, () -> codec.part(0, true));
    Due.refuses("a seventh part of no type", INDEX, () -> codec.part(1, true));
    Due.answers("addSequence()", 1, codec::addSequence);
    sizes("a sequence of six parts", codec, 1, 7, 10);
    Due.answers("a part of a new draft", 1, () -> codec.part(1, false));
    Due.answers("addChoice()", 2, codec::addChoice);
    Due.answers("a part of a third draft", 1, () -> codec.part(2, true));
  }

  private static void sequences() {
    BitNotation codec = new BitNotation();
    codec.addNumber(0, 5);
    codec.addNumber(-3, 12);
    codec.part(0, false);
    codec.part(1, true);
    codec.part(0, true);
    Due.answers("addSequence()", 2, codec::addSequence);
    sizes("the sequence", codec, 2, 6, 13);
    Due.refuses("addSequence() of an empty draft", STATE, codec::addSequence);
    Due.refuses("addChoice() of an empty draft", STATE, codec::addChoice);
    codec.part(0, false);
    codec.part(2, false);
    Due.answers("addSequence()", 3, codec::addSequence);
    sizes("a sequence that has forgotten the flags of the first", codec, 3, 10, 17);
    Due.answers("types()", 4, codec::types);
  }

  private static void limitsOfSequences() {
    BitNotation codec = new BitNotation();
    codec.addNumber(0, 127);
    codec.addList(0, 8, 8);
    draftOf(codec, 1, 1, 1, 1, 0);
    codec.part(0, true);
    Due.answers("a sequence of 240 bits", 2, codec::addSequence);
    sizes("the sequence of 240 bits", codec, 2, 233, 240);
    draftOf(codec, 1, 1, 1, 1);
    codec.part(0, true);
    codec.part(0, true);
    Due.refuses("a sequence of 241 bits", STATE, codec::addSequence);
    Due.refuses("a sequence of 241 bits, again", STATE, codec::addSequence);
    Due.refuses("a part for a draft that has stayed", STATE, () -> codec.part(0, false));
    Due.answers("a choice from the draft that has stayed", 3, codec::addChoice);
    sizes("the choice", codec, 3, 10, 59);
  }

  private static void draftOf(BitNotation codec, int... types) {
    for (int type : types) {
      codec.part(type, false);
    }
  }

  private static void choices() {
    int[] widths = {0, 1, 2, 2, 3, 3};
    BitNotation codec = new BitNotation();
    codec.addNumber(0, 2);
    codec.addNumber(0, 100);
    for (int count = 1; count <= 6; count++) {
      for (int i = 0; i < count; i++) {
        codec.part(i == 0 ? 1 : 0, i % 2 == 0);
      }
      Due.answers("addChoice() of " + count, 1 + count, codec::addChoice);
      int least = widths[count - 1] + (count == 1 ? 7 : 2);
      sizes("a choice of " + count, codec, 1 + count, least, widths[count - 1] + 7);
    }
    Due.refuses("addChoice() of an empty draft", STATE, codec::addChoice);
    Due.refuses("addSequence() of an empty draft", STATE, codec::addSequence);
    Due.answers("types()", 8, codec::types);
    choicesOfUnequalTypes();
  }

  private static void choicesOfUnequalTypes() {
    BitNotation codec = new BitNotation();
    codec.addNumber(3, 3);
    codec.addNumber(0, 3);
    codec.addList(1, 1, 8);
    codec.addNumber(0, 100);
    draftOf(codec, 0, 0);
    Due.answers("a choice of types without bits", 4, codec::addChoice);
    sizes("a choice of types without bits", codec, 4, 1, 1);
    draftOf(codec, 3, 2);
    Due.answers("a choice of a number and a list", 5, codec::addChoice);
    sizes("a choice of a number and a list", codec, 5, 6, 20);
    draftOf(codec, 2, 3, 0);
    Due.answers("a choice of a list, a number and nothing", 6, codec::addChoice);
    sizes("a choice of a list, a number and nothing", codec, 6, 2, 21);
  }

  private static void limitsOfChoices() {
    BitNotation codec = new BitNotation();
    codec.addNumber(0, 31);
    codec.addList(0, 6, 6);
    codec.addList(1, 8, 8);
    codec.part(2, false);
    Due.answers("a choice of 240 bits", 3, codec::addChoice);
    sizes("the choice of 240 bits", codec, 3, 240, 240);
    draftOf(codec, 0, 3);
    Due.refuses("a choice of 241 bits", STATE, codec::addChoice);
    Due.answers("types()", 4, codec::types);
    Due.answers("a part for the draft that has stayed", 3, () -> codec.part(0, false));
  }

  /** These values have no bits but a few, so it is the numbers of their tales that are too many. */
  private static void limitsOfTales() {
    BitNotation codec = new BitNotation();
    codec.addNumber(4, 4);
    codec.addList(0, 8, 8);
    codec.addList(1, 8, 8);
    codec.addList(0, 7, 7);
    codec.addList(3, 2, 2);
    Due.refuses("a list of 585 numbers", STATE, () -> codec.addList(2, 8, 8));
    draftOf(codec, 2, 2, 2, 4, 0, 0);
    Due.answers("a sequence of 239 numbers", 5, codec::addSequence);
    draftOf(codec, 5);
    Due.answers("a choice of 240 numbers", 6, codec::addChoice);
    draftOf(codec, 6);
    Due.refuses("a choice of 241 numbers", STATE, codec::addChoice);
    Due.refuses("a sequence of 241 numbers", STATE, codec::addSequence);
    Due.refuses("a list of 241 numbers", STATE, () -> codec.addList(6, 0, 1));
    Due.answers("a list of 240 numbers", 7, () -> codec.addList(5, 0, 1));
    Due.refuses("an addition that makes a choice one of 241", STATE, () -> codec.extend(5, 0));
    flagsInTheTale();
    thingsInTheTale();
  }

  private static void flagsInTheTale() {
    BitNotation codec = new BitNotation();
    codec.addNumber(4, 4);
    codec.addList(0, 8, 8);
    codec.addList(1, 8, 8);
    codec.addList(0, 7, 7);
    codec.addList(3, 2, 2);
    draftOf(codec, 2, 2, 2);
    codec.part(4, true);
    codec.part(0, true);
    Due.answers("a sequence of 240 numbers, 2 of them flags", 5, codec::addSequence);
    sizes("the sequence of 240 numbers", codec, 5, 3, 3);
    draftOf(codec, 2, 2);
    codec.part(2, true);
    codec.part(4, true);
    codec.part(0, true);
    Due.refuses("a sequence of 241 numbers, 3 of them flags", STATE, codec::addSequence);
    Due.answers("types()", 6, codec::types);
  }

  private static void thingsInTheTale() {
    BitNotation codec = new BitNotation();
    codec.addNumber(4, 4);
    codec.addList(0, 8, 8);
    draftOf(codec, 1, 1, 1, 0);
    codec.addSequence();
    draftOf(codec, 1, 1, 1, 0, 0);
    codec.addSequence();
    Due.answers("a list of 1 + 8 * 29 numbers", 4, () -> codec.addList(2, 8, 8));
    Due.refuses("a list of 1 + 8 * 30 numbers", STATE, () -> codec.addList(3, 8, 8));
    Due.refuses("a list of up to 1 + 8 * 30 numbers", STATE, () -> codec.addList(3, 0, 8));
    Due.answers("a list of 1 + 7 * 30 numbers", 5, () -> codec.addList(3, 7, 7));
  }

  private static void extensions() {
    BitNotation codec = new BitNotation();
    codec.addNumber(0, 5);
    codec.addNumber(-3, 12);
    codec.part(0, false);
    codec.part(1, true);
    codec.part(0, true);
    codec.addSequence();
    codec.addList(2, 1, 2);
    codec.part(3, false);
    Due.answers("the first addition", 1, () -> codec.extend(2, 1));
    sizes("a sequence with one addition", codec, 2, 6, 27);
    sizes("a list of such", codec, 3, 7, 55);
    Due.answers("the second addition", 2, () -> codec.extend(2, 0));
    sizes("a sequence with two additions", codec, 2, 6, 38);
    Due.answers("the third addition", 3, () -> codec.extend(2, 0));
    sizes("a sequence with three additions", codec, 2, 6, 49);
    sizes("a list of such", codec, 3, 7, 99);
    Due.refuses("a fourth addition", STATE, () -> codec.extend(2, 0));
    sizes("a sequence without a fourth addition", codec, 2, 6, 49);
    Due.answers("addSequence() of a draft from before", 4, codec::addSequence);
    sizes("a sequence of what was extended meanwhile", codec, 4, 8, 100);
    Due.answers("types()", 5, codec::types);
  }

  private static void refusedExtensions() {
    BitNotation codec = new BitNotation();
    Due.refuses("extend(0, 0) without types", INDEX, () -> codec.extend(0, 0));
    codec.addNumber(0, 5);
    codec.addList(0, 0, 3);
    draftOf(codec, 0, 1);
    codec.addChoice();
    draftOf(codec, 0, 1);
    codec.addSequence();
    codec.addNumber(0, 5);
    Due.refuses("extend of a number", ARGUMENT, () -> codec.extend(4, 0));
    Due.refuses("extend of a list", ARGUMENT, () -> codec.extend(1, 0));
    Due.refuses("extend of a choice", ARGUMENT, () -> codec.extend(2, 0));
    Due.refuses("extend by itself", ARGUMENT, () -> codec.extend(3, 3));
    Due.refuses("extend by a later type", ARGUMENT, () -> codec.extend(3, 4));
    for (int none : new int[] {5, -1, 16, Integer.MAX_VALUE, Integer.MIN_VALUE}) {
      Due.refuses("extend of no type", INDEX, () -> codec.extend(none, 0));
      Due.refuses("extend by no type", INDEX, () -> codec.extend(3, none));
      Due.refuses("extend of a number by no type", INDEX, () -> codec.extend(0, none));
    }
    Due.answers("extend by the type before", 1, () -> codec.extend(3, 2));
    codec.extend(3, 0);
    codec.extend(3, 0);
    Due.refuses("a fourth addition of a later type", ARGUMENT, () -> codec.extend(3, 4));
    Due.refuses("a fourth addition of no type", INDEX, () -> codec.extend(3, 5));
  }

  private static void extensionsUpToTheLimit() {
    BitNotation codec = new BitNotation();
    codec.addNumber(0, 127);
    codec.addList(0, 8, 8);
    codec.addNumber(0, 15);
    draftOf(codec, 1, 1, 1, 1, 2);
    codec.addSequence();
    codec.addNumber(0, 0);
    draftOf(codec, 4);
    codec.addSequence();
    codec.addNumber(0, 1);
    draftOf(codec, 6);
    codec.addSequence();
    Due.answers("an addition that makes 240 bits", 1, () -> codec.extend(5, 3));
    sizes("the sequence of 240 bits", codec, 5, 1, 240);
    Due.refuses("an addition to 240 bits", STATE, () -> codec.extend(5, 4));
    Due.refuses("an addition that makes 241 bits", STATE, () -> codec.extend(7, 3));
    sizes("the sequence that stays", codec, 7, 2, 2);
    additionsInTheTale();
  }

  private static void additionsInTheTale() {
    BitNotation codec = new BitNotation();
    codec.addNumber(4, 4);
    codec.addList(0, 8, 8);
    codec.addList(1, 8, 8);
    codec.addList(0, 7, 7);
    codec.addList(3, 2, 2);
    draftOf(codec, 2, 2, 2, 4, 0, 0);
    codec.addSequence();
    Due.answers("an addition that makes 240 numbers", 1, () -> codec.extend(5, 0));
    Due.refuses("an addition that makes 241 numbers", STATE, () -> codec.extend(5, 0));
    sizes("the sequence of 240 numbers", codec, 5, 1, 11);
  }

  private static void extensionsThatReachLaterTypes() {
    BitNotation codec = new BitNotation();
    codec.addNumber(0, 127);
    draftOf(codec, 0);
    codec.addSequence();
    codec.addList(1, 8, 8);
    draftOf(codec, 2, 2);
    codec.addSequence();
    codec.addNumber(0, 1);
    draftOf(codec, 3);
    codec.addSequence();
    sizes("a sequence of lists of sequences", codec, 3, 129, 129);
    Due.refuses("an addition that makes a later value too long", STATE, () -> codec.extend(1, 0));
    sizes("the sequence that stays", codec, 1, 8, 8);
    sizes("the list that stays", codec, 2, 64, 64);
    sizes("the later sequence that stays", codec, 3, 129, 129);
    sizes("the last sequence", codec, 5, 130, 130);
    Due.tell(codec, 1, 7);
    Due.answers("wrongAt of an addition that was refused", 0, () -> codec.wrongAt(1));
    Due.answers("another addition", 1, () -> codec.extend(5, 0));
  }

  private static void atMostSixteenTypes() {
    BitNotation codec = new BitNotation();
    codec.addNumber(0, 1);
    draftOf(codec, 0);
    codec.addSequence();
    for (int i = 2; i < 16; i++) {
      int number = i;
      Due.answers("type " + i, number, () -> codec.addNumber(-number, number));
    }
    Due.refuses("a 17th type, of numbers", STATE, () -> codec.addNumber(0, 0));
    Due.refuses("a 17th type, of numbers out of range", ARGUMENT, () -> codec.addNumber(1, 0));
    Due.refuses("a 17th type, of lists", STATE, () -> codec.addList(0, 0, 0));
    Due.refuses("a 17th type, of lists out of range", ARGUMENT, () -> codec.addList(0, 1, 0));
    Due.refuses("a 17th type, of lists of no type", INDEX, () -> codec.addList(16, 1, 0));
    draftOf(codec, 15, 15);
    Due.refuses("a 17th type, of sequences", STATE, codec::addSequence);
    Due.refuses("a 17th type, of choices", STATE, codec::addChoice);
    Due.answers("a part for the draft that has stayed", 3, () -> codec.part(0, false));
    Due.answers("an addition for one of sixteen", 1, () -> codec.extend(1, 0));
    Due.answers("types()", 16, codec::types);
    sizes("type 15", codec, 15, 5, 5);
  }
}
