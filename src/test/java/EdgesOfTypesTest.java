/** Promises 1 to 10, sentence by sentence: the last that is allowed, and the first that is not. */
public final class EdgesOfTypesTest {
  private static final Class<IllegalArgumentException> ARGUMENT = Refusal.ARGUMENT;
  private static final Class<IllegalStateException> STATE = Refusal.STATE;
  private static final Class<IndexOutOfBoundsException> INDEX = Refusal.INDEX;
  private static final int LOWEST = Integer.MIN_VALUE;
  private static final int HIGHEST = Integer.MAX_VALUE;

  public static void main(String[] args) {
    newObjectHasNothing();
    newObjectRefuses();
    boundsOfNumbersThatAreAllowed();
    boundsOfNumbersThatAreNot();
    widthsOfNumbers();
    listsOfNoSuchType();
    sizesThatAreAllowed();
    sizesThatAreNot();
    widthsOfSizes();
    bitsOfLists();
    numbersOfLists();
    partsOfNoSuchType();
    sixParts();
    emptyDraft();
    draftIsEmptyBehindAType();
    draftOfARefusedTypeStays();
    partsOptionalOrNot();
    optionalDoesNotMatterForChoices();
    bitsOfSequences();
    numbersOfSequences();
    widthsOfChoices();
    bitsOfChoices();
    numbersOfChoices();
    extendNoSuchType();
    extendNoSequence();
    extendByEarlierTypesAlone();
    threeAdditions();
    bitsOfAdditions();
    numbersOfAdditions();
    additionsReachLaterTypes();
    additionsReachTheDraft();
    sixteenTypes();
    sixteenTypesAndAnotherCause();
    measuresOfNoSuchType();
    measuresOfNothingAndOfTheMost();
    measuresOfUnequalParts();
    Due.finish();
  }

  // ---- promise 1

  private static void newObjectHasNothing() {
    BitNotation codec = new BitNotation();
    Due.answers("types() of a new object", 0, codec::types);
    Due.answers("length() of a new object", 0, codec::length);
    Due.answers("bits() of a new object", 0, codec::bits);
    Due.answers("forget() of a new object", 0, codec::forget);
    Due.answers("cut(0) of a new object", 0, () -> codec.cut(0));
    Due.answers("addNumber of a new object", 0, () -> codec.addNumber(0, 0));
    Due.answers("tell of a new object", 1, () -> codec.tell(0));
    Due.answers("part of a new object", 1, () -> codec.part(0, false));
  }

  private static void newObjectRefuses() {
    Refusal.State made = BitNotation::new;
    for (int none : new int[] {0, -1, 16, LOWEST, HIGHEST}) {
      String first = "(" + none;
      Refusal.of("addList" + first + ", 0, 1) of a new object", INDEX, made,
          x -> x.addList(none, 0, 1));
      Refusal.of("part" + first + ", true) of a new object", INDEX, made, x -> x.part(none, true));
      Refusal.of("extend" + first + ", 0) of a new object", INDEX, made, x -> x.extend(none, 0));
      Refusal.of("extend(0" + ", " + none + ") of a new object", INDEX, made,
          x -> x.extend(0, none));
      Refusal.of("leastBits" + first + ") of a new object", INDEX, made, x -> x.leastBits(none));
      Refusal.of("mostBits" + first + ") of a new object", INDEX, made, x -> x.mostBits(none));
      Refusal.of("told" + first + ") of a new object", INDEX, made, x -> x.told(none));
      Refusal.of("wrongAt" + first + ") of a new object", INDEX, made, x -> x.wrongAt(none));
      Refusal.of("write" + first + ") of a new object", INDEX, made, x -> x.write(none));
      Refusal.of("bit" + first + ") of a new object", INDEX, made, x -> x.bit(none));
      Refusal.of("flip" + first + ") of a new object", INDEX, made, x -> x.flip(none));
      Refusal.of("read" + first + ", 0) of a new object", INDEX, made, x -> x.read(none, 0));
      Refusal.of("faultAt" + first + ", 0) of a new object", INDEX, made, x -> x.faultAt(none, 0));
    }
    Refusal.of("addSequence() of a new object", STATE, made, BitNotation::addSequence);
    Refusal.of("addChoice() of a new object", STATE, made, BitNotation::addChoice);
    Refusal.of("cut(1) of a new object", ARGUMENT, made, x -> x.cut(1));
    Refusal.of("cut(-1) of a new object", ARGUMENT, made, x -> x.cut(-1));
  }

  // ---- promise 2

  private static void boundsOfNumbersThatAreAllowed() {
    int[][] allowed = {{-1000, -1000}, {-1000, -999}, {-1000, 1000}, {-1, 0}, {0, 0}, {0, 1},
        {999, 1000}, {1000, 1000}};
    BitNotation codec = new BitNotation();
    for (int i = 0; i < allowed.length; i++) {
      int least = allowed[i][0];
      int greatest = allowed[i][1];
      int due = i;
      String call = "addNumber(" + least + ", " + greatest + ")";
      Due.answers(call, due, () -> codec.addNumber(least, greatest));
      wrongAt(codec, due, -1, least);
      wrongAt(codec, due, -1, greatest);
      wrongAt(codec, due, 0, least == -1000 ? greatest + 1 : least - 1);
    }
  }

  private static void wrongAt(BitNotation codec, int type, int due, int number) {
    codec.forget();
    if (number >= -1000 && number <= 1000) {
      codec.tell(number);
      Due.answers("wrongAt of " + number + " for type " + type, due, () -> codec.wrongAt(type));
    }
  }

  private static void boundsOfNumbersThatAreNot() {
    int[][] refused = {{-1001, -1001}, {-1001, -1000}, {-1001, 0}, {-1001, 1000}, {-1001, 1001},
        {1001, 1001}, {1001, 1000}, {1001, 0}, {1000, 1001}, {0, 1001}, {-1000, 1001},
        {-1000, -1001}, {1, 0}, {0, -1}, {1000, 999}, {1000, -1000}, {LOWEST, HIGHEST},
        {HIGHEST, LOWEST}, {LOWEST, LOWEST}, {HIGHEST, HIGHEST}, {0, HIGHEST}, {0, LOWEST},
        {LOWEST, 0}, {HIGHEST, 0}};
    for (int[] bounds : refused) {
      String call = "addNumber(" + bounds[0] + ", " + bounds[1] + ")";
      Refusal.of(call, ARGUMENT, BitNotation::new, x -> x.addNumber(bounds[0], bounds[1]));
      Refusal.of(call, ARGUMENT, States::some, x -> x.addNumber(bounds[0], bounds[1]));
    }
  }

  /** 2 to the power of the width is at least the count, and half of it is not. */
  private static void widthsOfNumbers() {
    for (int width = 1; width <= 10; width++) {
      int most = 1 << width;
      widthOfNumbers(most / 2 + 1, width);
      widthOfNumbers(most, width);
      widthOfNumbers(most + 1, width + 1);
    }
    widthOfNumbers(1, 0);
    widthOfNumbers(2001, 11);
  }

  private static void widthOfNumbers(int count, int due) {
    BitNotation codec = new BitNotation();
    codec.addNumber(-1000, count - 1001);
    codec.addNumber(1001 - count, 1000);
    for (int type = 0; type < 2; type++) {
      measures("type " + type + " of " + count + " numbers", codec, type, due, due);
      codec.forget();
      codec.tell(type == 0 ? -1000 : 1000);
      int first = type;
      Due.answers("write of one of " + count + " numbers", due, () -> codec.write(first));
    }
  }

  private static void measures(String what, BitNotation codec, int type, int least, int most) {
    Due.answers("leastBits of " + what, least, () -> codec.leastBits(type));
    Due.answers("mostBits of " + what, most, () -> codec.mostBits(type));
  }

  // ---- promise 3

  private static void listsOfNoSuchType() {
    BitNotation codec = States.some();
    Due.answers("addList of the first type", 4, () -> codec.addList(0, 0, 8));
    Due.answers("addList of the last type", 5, () -> codec.addList(4, 0, 1));
    for (int none : new int[] {4, -1, 16, LOWEST, HIGHEST}) {
      String call = "addList(" + none + ", ";
      Refusal.of(call + "0, 1)", INDEX, States::some, x -> x.addList(none, 0, 1));
      Refusal.of(call + "-1, 1)", INDEX, States::some, x -> x.addList(none, -1, 1));
      Refusal.of(call + "0, 9)", INDEX, States::some, x -> x.addList(none, 0, 9));
    }
  }

  private static void sizesThatAreAllowed() {
    for (int least = 0; least <= 8; least++) {
      for (int greatest = least; greatest <= 8; greatest++) {
        BitNotation codec = new BitNotation();
        codec.addNumber(3, 3);
        int first = least;
        int last = greatest;
        String sizes = least + " to " + greatest;
        Due.answers("addList of sizes " + sizes, 1, () -> codec.addList(0, first, last));
        for (int size = -1; size <= 9; size++) {
          codec.forget();
          codec.tell(size);
          for (int i = 0; i < size; i++) {
            codec.tell(3);
          }
          Due.answers("wrongAt of size " + size + " for sizes " + sizes,
              size >= least && size <= greatest ? -1 : 0, () -> codec.wrongAt(1));
        }
      }
    }
  }

  private static void sizesThatAreNot() {
    int[][] refused = {{-1, -1}, {-1, 0}, {-1, 8}, {-1, 9}, {9, 9}, {9, 8}, {8, 9}, {0, 9}, {0, -1},
        {1, 0}, {8, 7}, {8, 0}, {LOWEST, HIGHEST}, {HIGHEST, LOWEST}, {0, HIGHEST}, {LOWEST, 8},
        {0, LOWEST}, {HIGHEST, 8}, {LOWEST, LOWEST}, {HIGHEST, HIGHEST}};
    for (int[] sizes : refused) {
      String call = "addList(0, " + sizes[0] + ", " + sizes[1] + ")";
      Refusal.of(call, ARGUMENT, States::some, x -> x.addList(0, sizes[0], sizes[1]));
    }
  }

  private static void widthsOfSizes() {
    int[] widths = {0, 1, 2, 2, 3, 3, 3, 3, 4};
    for (int over = 0; over <= 8; over++) {
      BitNotation codec = new BitNotation();
      int most = over;
      codec.addNumber(7, 7);
      codec.addList(0, 0, most);
      codec.addList(0, 8 - most, 8);
      measures("sizes 0 to " + over, codec, 1, widths[over], widths[over]);
      measures("sizes " + (8 - over) + " to 8", codec, 2, widths[over], widths[over]);
    }
  }

  private static BitNotation ofBits(int bits) {
    BitNotation codec = new BitNotation();
    int type = States.typeOfBits(codec, bits);
    Due.holds("a type for the test has not 5 types", type == 4);
    measures("a type of " + bits, codec, type, bits, bits);
    return codec;
  }

  private static BitNotation ofNumbers(int numbers) {
    BitNotation codec = new BitNotation();
    int type = States.typeOfNumbers(codec, numbers);
    Due.holds("a type for the test has not 7 types", type == 6);
    return codec;
  }

  private static void bitsOfLists() {
    int[][] allowed = {{240, 1, 1}, {239, 0, 1}, {120, 2, 2}, {119, 0, 2}, {119, 1, 2}, {30, 8, 8},
        {29, 0, 8}, {240, 0, 0}};
    for (int[] list : allowed) {
      BitNotation codec = ofBits(list[0]);
      int width = list[1] == list[2] ? 0 : list[2] - list[1] == 8 ? 4 : list[2] - list[1] == 2 ? 2 : 1;
      String what = "a list of " + list[1] + " to " + list[2] + " things of " + list[0] + " bits";
      Due.answers(what, 5, () -> codec.addList(4, list[1], list[2]));
      measures(what, codec, 5, width + list[0] * list[1], width + list[0] * list[2]);
    }
    int[][] refused = {{240, 0, 1}, {120, 1, 2}, {121, 2, 2}, {30, 7, 8}, {31, 8, 8}, {240, 8, 8}};
    for (int[] list : refused) {
      Refusal.of("a list of " + list[1] + " to " + list[2] + " things of " + list[0] + " bits", STATE,
          () -> ofBits(list[0]), x -> x.addList(4, list[1], list[2]));
    }
    Refusal.of("a list of sizes 9, and too long", ARGUMENT, () -> ofBits(240),
        x -> x.addList(4, 9, 9));
    Refusal.of("a list of sizes 2 to 1, and too long", ARGUMENT, () -> ofBits(240),
        x -> x.addList(4, 2, 1));
  }

  private static void numbersOfLists() {
    int[][] allowed = {{239, 1, 1}, {239, 0, 1}, {119, 2, 2}, {29, 8, 8}, {34, 0, 7}, {240, 0, 0}};
    for (int[] list : allowed) {
      BitNotation codec = ofNumbers(list[0]);
      Due.answers("a list of " + list[2] + " things of " + list[0] + " numbers", 7,
          () -> codec.addList(6, list[1], list[2]));
    }
    int[][] refused = {{240, 1, 1}, {240, 0, 1}, {120, 2, 2}, {30, 8, 8}, {35, 0, 7}, {240, 8, 8}};
    for (int[] list : refused) {
      Refusal.of("a list of " + list[2] + " things of " + list[0] + " numbers", STATE,
          () -> ofNumbers(list[0]), x -> x.addList(6, list[1], list[2]));
    }
  }

  // ---- promise 4

  private static void partsOfNoSuchType() {
    BitNotation codec = States.some();
    Due.answers("a part of the first type", 3, () -> codec.part(0, false));
    Due.answers("a part of the last type", 4, () -> codec.part(3, true));
    for (int none : new int[] {4, -1, 16, LOWEST, HIGHEST}) {
      Refusal.of("part(" + none + ", true)", INDEX, States::some, x -> x.part(none, true));
      Refusal.of("part(" + none + ", false)", INDEX, States::some, x -> x.part(none, false));
    }
    for (int none : new int[] {-1, 16, LOWEST, HIGHEST}) {
      Refusal.of("a seventh part, of type " + none, INDEX, States::full, x -> x.part(none, true));
    }
  }

  private static BitNotation withDraft(int parts) {
    BitNotation codec = new BitNotation();
    codec.addNumber(0, 1);
    codec.addNumber(0, 100);
    for (int i = 0; i < parts; i++) {
      codec.part(1, i % 2 == 0);
    }
    return codec;
  }

  private static void sixParts() {
    BitNotation codec = withDraft(0);
    for (int i = 1; i <= 6; i++) {
      int due = i;
      Due.answers("part " + i, due, () -> codec.part(due % 2, due % 3 == 0));
    }
    Refusal.of("a seventh part", STATE, () -> withDraft(6), x -> x.part(0, false));
    Refusal.of("a seventh part, optional", STATE, () -> withDraft(6), x -> x.part(1, true));
    Refusal.of("a seventh part, of 16 types", STATE, States::full, x -> x.part(15, true));
    for (int parts = 1; parts <= 6; parts++) {
      BitNotation sequences = withDraft(parts);
      BitNotation choices = withDraft(parts);
      Due.answers("addSequence() of " + parts + " parts", 2, sequences::addSequence);
      Due.answers("addChoice() of " + parts + " parts", 2, choices::addChoice);
    }
  }

  // ---- promises 4 to 6: the draft

  private static BitNotation withoutDraft() {
    BitNotation codec = States.some();
    codec.addChoice();
    return codec;
  }

  private static void emptyDraft() {
    Refusal.State state = EdgesOfTypesTest::withoutDraft;
    Refusal.of("addSequence() of an empty draft", STATE, state, BitNotation::addSequence);
    Refusal.of("addChoice() of an empty draft", STATE, state, BitNotation::addChoice);
    Refusal.State sixteen = () -> States.fillTypes(withoutDraft());
    Refusal.of("addSequence() of an empty draft, of 16 types", STATE, sixteen,
        BitNotation::addSequence);
    Refusal.of("addChoice() of an empty draft, of 16 types", STATE, sixteen, BitNotation::addChoice);
  }

  private static void draftIsEmptyBehindAType() {
    for (boolean asSequence : new boolean[] {true, false}) {
      BitNotation codec = withDraft(6);
      String made = asSequence ? "a sequence" : "a choice";
      Due.answers(made, 2, () -> asSequence ? codec.addSequence() : codec.addChoice());
      Due.refuses("addSequence() behind " + made, STATE, codec::addSequence);
      Due.refuses("addChoice() behind " + made, STATE, codec::addChoice);
      Due.answers("the first part behind " + made, 1, () -> codec.part(0, false));
      Due.answers("the next sequence", 3, codec::addSequence);
      measures("a sequence whose part is not optional", codec, 3, 2, 2);
    }
  }

  private static void draftOfARefusedTypeStays() {
    Refusal.State state = () -> {
      BitNotation codec = ofBits(120);
      codec.part(4, true);
      codec.part(4, false);
      return codec;
    };
    Refusal.of("a sequence of 242 bits", STATE, state, BitNotation::addSequence);
    BitNotation codec = state.make();
    Due.refuses("a sequence of 242 bits", STATE, codec::addSequence);
    Due.answers("a choice of the same draft", 5, codec::addChoice);
    measures("the choice", codec, 5, 121, 121);
  }

  // ---- promise 5

  private static void partsOptionalOrNot() {
    for (int optional = 0; optional < 64; optional++) {
      BitNotation codec = new BitNotation();
      codec.addNumber(0, 3);
      for (int i = 0; i < 6; i++) {
        codec.part(0, (optional >> i & 1) == 1);
      }
      codec.addSequence();
      int flags = Integer.bitCount(optional);
      measures("a sequence of 6 parts, " + flags + " of them optional", codec, 1,
          1 + flags + 2 * (6 - flags), 1 + flags + 12);
    }
  }

  private static Refusal.State withPart(int bits, boolean optional) {
    return () -> {
      BitNotation codec = ofBits(bits);
      codec.part(4, optional);
      return codec;
    };
  }

  private static void bitsOfSequences() {
    BitNotation certain = withPart(239, false).make();
    Due.answers("a sequence of 1 + 239 bits", 5, certain::addSequence);
    measures("a sequence of 1 + 239 bits", certain, 5, 240, 240);
    BitNotation perhaps = withPart(238, true).make();
    Due.answers("a sequence of 1 + 1 + 238 bits", 5, perhaps::addSequence);
    measures("a sequence of 1 + 1 + 238 bits", perhaps, 5, 2, 240);
    Refusal.of("a sequence of 1 + 240 bits", STATE, withPart(240, false), BitNotation::addSequence);
    Refusal.of("a sequence of 1 + 1 + 239 bits", STATE, withPart(239, true),
        BitNotation::addSequence);
    Refusal.State six = () -> {
      BitNotation codec = ofBits(40);
      for (int i = 0; i < 6; i++) {
        codec.part(4, i > 2);
      }
      return codec;
    };
    Refusal.of("a sequence of 1 + 3 + 6 * 40 bits", STATE, six, BitNotation::addSequence);
  }

  private static Refusal.State withPartOfNumbers(int numbers, boolean optional) {
    return () -> {
      BitNotation codec = ofNumbers(numbers);
      codec.part(6, optional);
      return codec;
    };
  }

  private static void numbersOfSequences() {
    Due.answers("a sequence of 1 + 239 numbers", 7,
        withPartOfNumbers(239, false).make()::addSequence);
    Due.answers("a sequence of 1 + 1 + 238 numbers", 7,
        withPartOfNumbers(238, true).make()::addSequence);
    Refusal.of("a sequence of 1 + 240 numbers", STATE, withPartOfNumbers(240, false),
        BitNotation::addSequence);
    Refusal.of("a sequence of 1 + 1 + 239 numbers", STATE, withPartOfNumbers(239, true),
        BitNotation::addSequence);
  }

  // ---- promise 6

  private static void optionalDoesNotMatterForChoices() {
    BitNotation codec = new BitNotation();
    codec.addNumber(0, 100);
    codec.addNumber(0, 7);
    codec.part(0, true);
    codec.part(1, true);
    codec.addChoice();
    codec.part(0, false);
    codec.part(1, false);
    codec.addChoice();
    for (int type = 2; type <= 3; type++) {
      int choice = type;
      measures("a choice", codec, type, 4, 8);
      Due.tell(codec, 0, 100);
      Due.answers("wrongAt of a choice", -1, () -> codec.wrongAt(choice));
      Due.answers("write of a choice", 8, () -> codec.write(choice));
      Due.bits("a choice", codec, "0 1100100");
      Due.answers("read of a choice", 2, () -> codec.read(choice, 0));
    }
  }

  private static void widthsOfChoices() {
    int[] widths = {0, 1, 2, 2, 3, 3};
    for (int count = 1; count <= 6; count++) {
      BitNotation codec = new BitNotation();
      codec.addNumber(9, 9);
      for (int i = 0; i < count; i++) {
        codec.part(0, false);
      }
      codec.addChoice();
      measures("a choice of " + count, codec, 1, widths[count - 1], widths[count - 1]);
    }
  }

  /** A choice of so many types, of which the one at a place is the last, and the others short. */
  private static BitNotation withChoices(BitNotation codec, int count, int place) {
    int last = codec.types() - 1;
    int one = codec.addNumber(0, 0);
    for (int i = 0; i < count; i++) {
      codec.part(i == place ? last : one, false);
    }
    return codec;
  }

  private static void bitsOfChoices() {
    int[] widths = {0, 1, 2, 2, 3, 3};
    for (int count = 1; count <= 6; count++) {
      int width = widths[count - 1];
      int types = count;
      for (int i = 0; i < count; i++) {
        int place = i;
        BitNotation codec = withChoices(ofBits(240 - width), types, place);
        Due.answers("a choice of 240 bits", 6, codec::addChoice);
        measures("a choice of 240 bits", codec, 6, count == 1 ? 240 : width, 240);
        if (width > 0) {
          Refusal.of("a choice of 241 bits", STATE,
              () -> withChoices(ofBits(241 - width), types, place), BitNotation::addChoice);
        }
      }
    }
  }

  private static void numbersOfChoices() {
    for (int count = 1; count <= 6; count++) {
      int types = count;
      for (int i = 0; i < count; i++) {
        int place = i;
        Due.answers("a choice of 240 numbers", 8,
            withChoices(ofNumbers(239), types, place)::addChoice);
        Refusal.of("a choice of 241 numbers", STATE,
            () -> withChoices(ofNumbers(240), types, place), BitNotation::addChoice);
      }
    }
  }

  // ---- promise 7

  private static void extendNoSuchType() {
    for (int none : new int[] {4, -1, 16, LOWEST, HIGHEST}) {
      Refusal.of("extend(" + none + ", 0)", INDEX, States::some, x -> x.extend(none, 0));
      Refusal.of("extend(2, " + none + ")", INDEX, States::some, x -> x.extend(2, none));
      Refusal.of("extend of a number by no type", INDEX, States::some, x -> x.extend(0, none));
      Refusal.of("extend of no type by no type", INDEX, States::some, x -> x.extend(none, none));
    }
    for (int none : new int[] {16, -1, LOWEST, HIGHEST}) {
      Refusal.of("a fourth addition, of no type", INDEX, States::full, x -> x.extend(3, none));
      Refusal.of("a fourth addition, to no type", INDEX, States::full, x -> x.extend(none, 0));
    }
  }

  private static void extendNoSequence() {
    Refusal.of("extend of a number", ARGUMENT, States::full, x -> x.extend(15, 0));
    Refusal.of("extend of the first type by itself", ARGUMENT, States::some, x -> x.extend(0, 0));
    Refusal.of("extend of a list", ARGUMENT, States::some, x -> x.extend(1, 0));
    Refusal.of("extend of a choice", ARGUMENT, States::some, x -> x.extend(3, 0));
    Refusal.of("extend of a choice by a sequence", ARGUMENT, States::some, x -> x.extend(3, 2));
  }

  private static void extendByEarlierTypesAlone() {
    BitNotation codec = States.some();
    Due.answers("extend by the type before", 2, () -> codec.extend(2, 1));
    Due.answers("extend by the first type", 3, () -> codec.extend(2, 0));
    Refusal.of("extend by itself", ARGUMENT, States::some, x -> x.extend(2, 2));
    Refusal.of("extend by the next type", ARGUMENT, States::some, x -> x.extend(2, 3));
    Refusal.of("a fourth addition, of itself", ARGUMENT, States::full, x -> x.extend(3, 3));
    Refusal.of("a fourth addition, of the next type", ARGUMENT, States::full, x -> x.extend(3, 4));
    Refusal.of("a fourth addition, of the last type", ARGUMENT, States::full, x -> x.extend(3, 15));
    Refusal.of("an addition too long, of itself", ARGUMENT, () -> extended(230, 0),
        x -> x.extend(7, 7));
  }

  private static BitNotation withAdditions(int additions) {
    BitNotation codec = new BitNotation();
    codec.addNumber(0, 0);
    codec.part(0, false);
    codec.addSequence();
    for (int i = 0; i < additions; i++) {
      codec.extend(1, 0);
    }
    return codec;
  }

  private static void threeAdditions() {
    for (int additions = 0; additions < 3; additions++) {
      int due = additions + 1;
      BitNotation codec = withAdditions(additions);
      Due.answers("addition " + due, due, () -> codec.extend(1, 0));
      measures("a sequence of " + due + " additions", codec, 1, 1, 3 + 8 * due);
    }
    Refusal.of("a fourth addition", STATE, () -> withAdditions(3), x -> x.extend(1, 0));
    Refusal.of("a fourth addition, of 16 types", STATE, States::full, x -> x.extend(3, 2));
  }

  /** A type of so many bits, a number of 0 bits, a sequence of that, with additions of that. */
  private static BitNotation extended(int bits, int additions) {
    BitNotation codec = ofBits(bits);
    codec.addNumber(0, 0);
    codec.addNumber(1, 1);
    codec.part(5, false);
    codec.addSequence();
    codec.part(5, false);
    int sequence = codec.types() - 1;
    for (int i = 0; i < additions; i++) {
      codec.extend(sequence, 5);
    }
    return codec;
  }

  private static void bitsOfAdditions() {
    for (int before = 0; before <= 2; before++) {
      int most = 240 - 3 - 8 - 8 * before;
      int additions = before;
      BitNotation codec = extended(most, before);
      Due.answers("an addition that makes 240 bits", before + 1, () -> codec.extend(7, 4));
      measures("an extended sequence of 240 bits", codec, 7, 1, 240);
      Refusal.of("an addition that makes 241 bits", STATE, () -> extended(most + 1, additions),
          x -> x.extend(7, 4));
      Refusal.of("an addition to 240 bits", STATE, () -> {
        BitNotation full = extended(most, additions);
        full.extend(7, 4);
        return full;
      }, x -> x.extend(7, 5));
    }
  }

  private static BitNotation extendedNumbers(int numbers, int additions) {
    BitNotation codec = ofNumbers(numbers);
    codec.part(0, false);
    codec.addSequence();
    for (int i = 0; i < additions; i++) {
      codec.extend(7, 0);
    }
    return codec;
  }

  private static void numbersOfAdditions() {
    for (int before = 0; before <= 2; before++) {
      int most = 240 - 2 - before;
      int additions = before;
      BitNotation codec = extendedNumbers(most, before);
      Due.answers("an addition that makes 240 numbers", before + 1, () -> codec.extend(7, 6));
      Refusal.of("an addition that makes 241 numbers", STATE,
          () -> extendedNumbers(most + 1, additions), x -> x.extend(7, 6));
      Refusal.of("an addition to 240 numbers", STATE, () -> {
        BitNotation full = extendedNumbers(most, additions);
        full.extend(7, 6);
        return full;
      }, x -> x.extend(7, 0));
    }
  }

  /** Makes a type of a sequence: a list, a choice, a sequence with it as part or as addition. */
  private interface Maker {
    void make(BitNotation codec, int sequence, int other);
  }

  private static final Maker[] MAKERS = {
    (codec, sequence, other) -> {
      codec.part(sequence, false);
      codec.part(other, false);
      codec.addSequence();
    },
    (codec, sequence, other) -> {
      codec.part(other, true);
      codec.part(sequence, true);
      codec.addSequence();
    },
    (codec, sequence, other) -> {
      codec.part(other, false);
      codec.addSequence();
      codec.extend(codec.types() - 1, sequence);
    },
    (codec, sequence, other) -> {
      codec.part(other, false);
      codec.part(sequence, false);
      codec.addSequence();
      codec.part(codec.types() - 1, false);
      codec.addChoice();
      codec.addNumber(0, 5);
      codec.addList(codec.types() - 2, 1, 1);
      codec.addNumber(0, 5);
    },
  };

  /** What the made types have beside the bits of the other type, and the sequence extended once. */
  private static final int[] BITS_BESIDE = {12, 14, 22, 12};
  private static final int[] NUMBERS_BESIDE = {4, 6, 4, 6};

  private static BitNotation reaching(int maker, int other, boolean ofBits) {
    BitNotation codec = new BitNotation();
    codec.addNumber(0, 0);
    codec.part(0, false);
    codec.addSequence();
    int last = ofBits ? States.typeOfBits(codec, other) : States.typeOfNumbers(codec, other);
    MAKERS[maker].make(codec, 1, last);
    return codec;
  }

  private static void additionsReachLaterTypes() {
    for (int i = 0; i < MAKERS.length; i++) {
      int maker = i;
      int bits = 240 - BITS_BESIDE[i];
      BitNotation codec = reaching(maker, bits, true);
      int reached = maker < 3 ? 7 : 10;
      Due.answers("an addition that makes 240 bits of a later type", 1, () -> codec.extend(1, 0));
      Due.answers("mostBits of a later type", 240, () -> codec.mostBits(reached));
      measures("the extended sequence itself", codec, 1, 1, 11);
      Refusal.of("an addition that makes 241 bits of a later type", STATE,
          () -> reaching(maker, bits + 1, true), x -> x.extend(1, 0));
      int numbers = 240 - NUMBERS_BESIDE[i];
      Due.answers("an addition that makes 240 numbers of a later type", 1,
          () -> reaching(maker, numbers, false).extend(1, 0));
      Refusal.of("an addition that makes 241 numbers of a later type", STATE,
          () -> reaching(maker, numbers + 1, false), x -> x.extend(1, 0));
    }
  }

  /** The draft is no type yet: it is measured when it becomes one. */
  private static void additionsReachTheDraft() {
    Refusal.State state = () -> {
      BitNotation codec = new BitNotation();
      codec.addNumber(0, 0);
      codec.part(0, false);
      codec.addSequence();
      int other = States.typeOfBits(codec, 238);
      codec.part(1, false);
      codec.part(other, false);
      codec.extend(1, 0);
      return codec;
    };
    Refusal.of("a sequence of a draft that has grown to 250 bits", STATE, state,
        BitNotation::addSequence);
    BitNotation codec = state.make();
    Due.answers("a choice of that draft", 7, codec::addChoice);
    measures("the choice", codec, 7, 2, 239);
  }

  // ---- promise 8, and the limit of 16 types

  private static void sixteenTypes() {
    Refusal.State fifteen = () -> {
      BitNotation codec = new BitNotation();
      for (int i = 0; i < 15; i++) {
        codec.addNumber(i, i);
      }
      codec.part(0, false);
      codec.part(14, false);
      return codec;
    };
    BitNotation codec = new BitNotation();
    for (int i = 0; i < 16; i++) {
      int due = i;
      Due.answers("types() before type " + i, due, codec::types);
      Due.answers("addNumber of type " + i, due, () -> codec.addNumber(0, due));
    }
    Due.answers("types() behind all", 16, codec::types);
    Due.answers("a list as the last type", 15, () -> fifteen.make().addList(14, 0, 1));
    Due.answers("a sequence as the last type", 15, fifteen.make()::addSequence);
    Due.answers("a choice as the last type", 15, fifteen.make()::addChoice);
    Refusal.of("a 17th type, of numbers", STATE, States::full, x -> x.addNumber(0, 0));
    Refusal.of("a 17th type, of lists", STATE, States::full, x -> x.addList(0, 0, 0));
    Refusal.of("a 17th type, of sequences", STATE, States::full, BitNotation::addSequence);
    Refusal.of("a 17th type, of choices", STATE, States::full, BitNotation::addChoice);
  }

  private static void sixteenTypesAndAnotherCause() {
    Refusal.of("a 17th type, of numbers from -1001", ARGUMENT, States::full,
        x -> x.addNumber(-1001, 0));
    Refusal.of("a 17th type, of numbers to 1001", ARGUMENT, States::full, x -> x.addNumber(0, 1001));
    Refusal.of("a 17th type, of numbers 1 to 0", ARGUMENT, States::full, x -> x.addNumber(1, 0));
    Refusal.of("a 17th type, of sizes from -1", ARGUMENT, States::full, x -> x.addList(0, -1, 1));
    Refusal.of("a 17th type, of sizes to 9", ARGUMENT, States::full, x -> x.addList(0, 0, 9));
    Refusal.of("a 17th type, of sizes 1 to 0", ARGUMENT, States::full, x -> x.addList(0, 1, 0));
    Refusal.of("a 17th type, of lists of type 16", INDEX, States::full, x -> x.addList(16, 0, 1));
    Refusal.of("a 17th type, of lists of type -1", INDEX, States::full, x -> x.addList(-1, 9, 1));
    Refusal.of("a 17th type, of too long lists", STATE, States::full, x -> x.addList(2, 0, 8));
  }

  // ---- promises 9 and 10

  private static void measuresOfNoSuchType() {
    for (int none : new int[] {4, -1, 5, 15, 16, LOWEST, HIGHEST}) {
      Refusal.of("leastBits(" + none + ")", INDEX, States::some, x -> x.leastBits(none));
      Refusal.of("mostBits(" + none + ")", INDEX, States::some, x -> x.mostBits(none));
    }
    for (int none : new int[] {16, -1, LOWEST, HIGHEST}) {
      Refusal.of("leastBits(" + none + ")", INDEX, States::full, x -> x.leastBits(none));
      Refusal.of("mostBits(" + none + ")", INDEX, States::full, x -> x.mostBits(none));
    }
    measures("the first type", States.some(), 0, 3, 3);
    measures("the last type", States.some(), 3, 4, 26);
    measures("the last type of 16", States.full(), 15, 5, 5);
  }

  private static void measuresOfNothingAndOfTheMost() {
    BitNotation nothing = new BitNotation();
    nothing.addNumber(5, 5);
    nothing.addList(0, 8, 8);
    nothing.part(1, false);
    nothing.addChoice();
    for (int type = 0; type < 3; type++) {
      measures("a type without bits", nothing, type, 0, 0);
    }
    BitNotation most = ofBits(240);
    most.addList(4, 1, 1);
    most.part(5, false);
    most.addChoice();
    measures("a list of 240 bits", most, 5, 240, 240);
    measures("a choice of 240 bits", most, 6, 240, 240);
  }

  /** The least is taken of the least of each part, and the most of the most. */
  private static void measuresOfUnequalParts() {
    BitNotation codec = new BitNotation();
    codec.addNumber(0, 7);
    codec.addList(0, 1, 2);
    measures("a list of 1 or 2 numbers", codec, 1, 4, 7);
    codec.addList(1, 2, 4);
    measures("a list of 2 to 4 lists", codec, 2, 10, 30);
    codec.part(1, false);
    codec.part(1, true);
    codec.part(2, false);
    codec.addSequence();
    measures("a sequence of lists", codec, 3, 16, 46);
    codec.part(3, false);
    codec.part(2, false);
    codec.addChoice();
    measures("a choice of a sequence and a list", codec, 4, 11, 47);
    codec.extend(3, 1);
    measures("a sequence with a list as addition", codec, 3, 16, 63);
    measures("a choice of that and a list", codec, 4, 11, 64);
  }
}
