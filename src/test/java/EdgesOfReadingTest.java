/** Promises 21 and 22, sentence by sentence: what is read, and each fault at its place. */
public final class EdgesOfReadingTest {
  private static final Class<IllegalArgumentException> ARGUMENT = Refusal.ARGUMENT;
  private static final Class<IllegalStateException> STATE = Refusal.STATE;
  private static final Class<IndexOutOfBoundsException> INDEX = Refusal.INDEX;
  private static final int LOWEST = Integer.MIN_VALUE;
  private static final int HIGHEST = Integer.MAX_VALUE;

  public static void main(String[] args) {
    readNoSuchType();
    readerKnowsZeroToThree();
    taleIsReplaced();
    noBits();
    numberOutOfRange();
    sizeOutOfRange();
    choiceOutOfRange();
    numberOfAdditionsOutOfRange();
    bitsThatLack();
    bitsThatLackForSkipping();
    lengthThatIsNotThatOfTheAddition();
    bitsLeftBehindTheValue();
    additionIsReadAsIfNothingWasTold();
    skippedBitsAreNotLookedAt();
    firstFaultOfReadingCounts();
    faultsWithinParts();
    readerKnowsFewerAdditions();
    readerKnowsFewerWithinAdditions();
    longestSkipped();
    Due.finish();
  }

  /** Looks for the fault that is due, and reads; with a fault reading is refused. */
  private static void fault(Refusal.State types, int type, int known, int due, String digits) {
    Refusal.State state = () -> States.bits(types.make(), digits);
    BitNotation codec = state.make();
    String call = "(" + type + ", " + known + ") of " + digits;
    int length = codec.length();
    Due.answers("faultAt" + call, due, () -> codec.faultAt(type, known));
    Due.bits("behind faultAt" + call, codec, digits);
    Due.answers("length() behind faultAt" + call, length, codec::length);
    if (due >= 0) {
      Refusal.of("read" + call, STATE, state, x -> x.read(type, known));
    } else {
      Due.answers("read" + call + " is not refused", 1, () -> codec.read(type, known) > 0 ? 1 : 0);
    }
  }

  private static void heard(Refusal.State types, int type, int known, String digits, int... due) {
    fault(types, type, known, -1, digits);
    BitNotation codec = States.bits(types.make(), digits);
    String call = "read(" + type + ", " + known + ") of " + digits;
    Due.answers(call, due.length, () -> codec.read(type, known));
    Due.tale("behind " + call, codec, due);
    Due.bits("behind " + call, codec, digits);
  }

  private static void readNoSuchType() {
    for (int none : new int[] {4, -1, 5, 15, 16, LOWEST, HIGHEST}) {
      for (int known : new int[] {0, 3, -1, 4, LOWEST, HIGHEST}) {
        String call = "(" + none + ", " + known + ")";
        Refusal.of("read" + call, INDEX, States::some, x -> x.read(none, known));
        Refusal.of("faultAt" + call, INDEX, States::some, x -> x.faultAt(none, known));
      }
    }
    for (int none : new int[] {16, -1, LOWEST, HIGHEST}) {
      Refusal.of("read(" + none + ", 3) of 16 types", INDEX, States::full, x -> x.read(none, 3));
      Refusal.of("faultAt(" + none + ", 3) of 16 types", INDEX, States::full,
          x -> x.faultAt(none, 3));
    }
    Due.answers("faultAt of the first type", 0, () -> States.some().faultAt(0, 0));
    Due.answers("faultAt of the last type of 16", 5, () -> States.full().faultAt(15, 0));
  }

  private static void readerKnowsZeroToThree() {
    for (int i = 0; i <= 3; i++) {
      int known = i;
      Due.answers("faultAt(1, " + i + ")", -1, () -> States.some().faultAt(1, known));
      Due.answers("read(1, " + i + ")", 3, () -> States.some().read(1, known));
      Refusal.of("read(0, " + i + ") of a fault", STATE, States::some, x -> x.read(0, known));
    }
    for (int known : new int[] {-1, 4, LOWEST, HIGHEST}) {
      for (int type = 0; type < 4; type++) {
        int some = type;
        String call = "(" + type + ", " + known + ")";
        Refusal.of("read" + call, ARGUMENT, States::some, x -> x.read(some, known));
        Refusal.of("faultAt" + call, ARGUMENT, States::some, x -> x.faultAt(some, known));
      }
      Refusal.of("read(2, " + known + ") of 240 bits", ARGUMENT, States::full, x -> x.read(2, known));
    }
  }

  private static void taleIsReplaced() {
    BitNotation codec = States.full();
    Due.answers("read in place of 300 numbers", 57, () -> codec.read(2, 0));
    Due.answers("the first number read", 8, () -> codec.told(0));
    Due.answers("the last number read", 19, () -> codec.told(56));
    Due.answers("tell behind what was read", 58, () -> codec.tell(1));
    Due.answers("read again", 57, () -> codec.read(2, 3));
    BitNotation few = States.some();
    few.forget();
    Due.answers("read in place of nothing", 3, () -> few.read(1, 0));
    Due.tale("read in place of nothing", few, 2, 5, 4);
    Due.bits("behind it", few, "1 101 100");
  }

  private static BitNotation withoutBits() {
    BitNotation codec = new BitNotation();
    codec.addNumber(-9, -9);
    codec.addList(0, 8, 8);
    codec.part(0, false);
    codec.addSequence();
    codec.addNumber(0, 1);
    codec.part(0, false);
    codec.addChoice();
    return codec;
  }

  private static void noBits() {
    Refusal.State types = EdgesOfReadingTest::withoutBits;
    heard(types, 0, 0, "", -9);
    heard(types, 1, 3, "", 8, -9, -9, -9, -9, -9, -9, -9, -9);
    heard(types, 4, 0, "", 0, -9);
    fault(types, 2, 0, 0, "");
    fault(types, 3, 0, 0, "");
    fault(types, 0, 0, 0, "1");
    fault(types, 1, 0, 0, "1");
    heard(types, 2, 0, "0", 0, -9);
    heard(types, 3, 0, "1", 1);
  }

  private static BitNotation withRanges() {
    BitNotation codec = new BitNotation();
    codec.addNumber(-2, 2);
    codec.addNumber(-4, 3);
    codec.addList(0, 1, 3);
    codec.addList(1, 5, 8);
    codec.part(0, false);
    codec.part(1, false);
    codec.part(0, false);
    codec.addChoice();
    return codec;
  }

  private static void numberOutOfRange() {
    Refusal.State types = EdgesOfReadingTest::withRanges;
    for (int i = 0; i < 8; i++) {
      String digits = Integer.toBinaryString(8 + i).substring(1);
      heard(types, 1, 0, digits, i - 4);
      fault(types, 0, 0, i <= 4 ? -1 : 0, digits);
    }
    heard(types, 0, 0, "000", -2);
    heard(types, 0, 0, "100", 2);
    for (int count : new int[] {3, 5, 9, 1025, 2001}) {
      Refusal.State number = () -> {
        BitNotation codec = new BitNotation();
        codec.addNumber(1001 - count, 1000);
        return codec;
      };
      String last = Integer.toBinaryString(count - 1);
      heard(number, 0, 0, last, 1000);
      heard(number, 0, 0, last.replace('1', '0'), 1001 - count);
      fault(number, 0, 0, 0, Integer.toBinaryString(count));
      fault(number, 0, 0, 0, last.replace('0', '1'));
    }
  }

  private static void sizeOutOfRange() {
    Refusal.State types = EdgesOfReadingTest::withRanges;
    heard(types, 2, 0, "00 000", 1, -2);
    heard(types, 2, 0, "10 000 001 100", 3, -2, -1, 2);
    fault(types, 2, 0, 0, "11 000 001 100 000");
    fault(types, 2, 0, 0, "11");
    heard(types, 3, 0, "11" + " 000".repeat(8), 8, -4, -4, -4, -4, -4, -4, -4, -4);
    Refusal.State eight = () -> {
      BitNotation codec = new BitNotation();
      codec.addNumber(0, 0);
      codec.addList(0, 0, 8);
      return codec;
    };
    heard(eight, 1, 0, "1000", 8, 0, 0, 0, 0, 0, 0, 0, 0);
    for (int i = 9; i < 16; i++) {
      fault(eight, 1, 0, 0, Integer.toBinaryString(i));
    }
  }

  private static void choiceOutOfRange() {
    Refusal.State types = EdgesOfReadingTest::withRanges;
    heard(types, 4, 0, "10 000", 2, -2);
    fault(types, 4, 0, 0, "11 000");
    int[] widths = {0, 1, 2, 2, 3, 3};
    for (int count = 1; count <= 6; count++) {
      int parts = count;
      Refusal.State choice = () -> {
        BitNotation codec = new BitNotation();
        codec.addNumber(0, 1);
        for (int i = 0; i < parts; i++) {
          codec.part(0, false);
        }
        codec.addChoice();
        return codec;
      };
      int width = widths[count - 1];
      for (int i = 0; i < 1 << width; i++) {
        String digits = Integer.toBinaryString((1 << width) + i).substring(1);
        if (i < count) {
          heard(choice, 1, 0, digits + "1", i, 1);
        } else {
          fault(choice, 1, 0, 0, digits + "1");
        }
      }
    }
  }

  private static Refusal.State withAdditions(int additions) {
    return () -> {
      BitNotation codec = new BitNotation();
      codec.addNumber(0, 2);
      codec.part(0, true);
      codec.addSequence();
      for (int i = 0; i < additions; i++) {
        codec.extend(1, 0);
      }
      return codec;
    };
  }

  /** 4 additions are out of the range; others may be more than the sequence has. */
  private static void numberOfAdditionsOutOfRange() {
    for (int has = 0; has <= 3; has++) {
      for (int there = 1; there <= 4; there++) {
        String count = Integer.toBinaryString(3 + there).substring(1);
        String behind = " 00000010 10".repeat(there);
        for (int known = 0; known <= 3; known++) {
          fault(withAdditions(has), 1, known, there <= has ? -1 : 2, "1 0 " + count + behind);
          fault(withAdditions(has), 1, known, there <= has ? -1 : 4, "1 1 01 " + count + behind);
        }
        fault(withAdditions(has), 1, 3, there <= has ? 4 : 2, "1 0 " + count);
      }
      fault(withAdditions(has), 1, 3, -1, "0 0");
    }
  }

  private static void bitsThatLack() {
    String whole = "1 1 01 10 00000010 00 00000010 01 00000010 10".replace(" ", "");
    for (int left = 0; left < whole.length(); left++) {
      for (int known : new int[] {0, 1, 2, 3}) {
        fault(withAdditions(3), 1, known, left, whole.substring(0, left));
      }
    }
    fault(withAdditions(3), 1, 3, -1, whole);
    Refusal.State types = EdgesOfReadingTest::withRanges;
    fault(types, 0, 0, 2, "11");
    fault(types, 0, 0, 1, "1");
    fault(types, 2, 0, 1, "1");
    fault(types, 2, 0, 2, "10");
    fault(types, 2, 0, 4, "10 11");
    fault(types, 4, 0, 1, "1");
    fault(types, 4, 0, 2, "10");
    fault(types, 4, 0, 4, "10 11");
  }

  private static void bitsThatLackForSkipping() {
    fault(withAdditions(1), 1, 0, -1, "1 0 00 00000011 111");
    fault(withAdditions(1), 1, 0, 14, "1 0 00 00000011 11");
    fault(withAdditions(1), 1, 0, 12, "1 0 00 00000001");
    fault(withAdditions(1), 1, 0, -1, "1 0 00 00000000");
    fault(withAdditions(1), 1, 0, 12, "1 0 00 11111111");
    fault(withAdditions(1), 1, 0, 11, "1 0 00 0000000");
    fault(withAdditions(2), 1, 1, 23, "1 0 01 00000010 10 00000011 1");
    fault(withAdditions(2), 1, 1, 22, "1 0 01 00000010 10 00000011");
    fault(withAdditions(2), 1, 1, -1, "1 0 01 00000010 10 00000000");
    fault(withAdditions(2), 1, 1, -1, "1 0 01 00000010 10 00000011 111");
  }

  private static BitNotation withListAsAddition() {
    BitNotation codec = new BitNotation();
    codec.addNumber(0, 4);
    codec.addList(0, 0, 2);
    codec.addNumber(7, 7);
    codec.part(2, false);
    codec.addSequence();
    codec.extend(3, 1);
    codec.extend(3, 2);
    return codec;
  }

  private static void lengthThatIsNotThatOfTheAddition() {
    Refusal.State types = EdgesOfReadingTest::withListAsAddition;
    for (int told = 0; told < 256; told += told < 10 ? 1 : 35) {
      String length = Integer.toBinaryString(256 + told).substring(1);
      fault(types, 3, 1, told == 2 ? -1 : 11, "1 00 " + length + " 00");
      fault(types, 3, 1, told == 5 ? -1 : 11, "1 00 " + length + " 01 100");
      fault(types, 3, 1, told == 8 ? -1 : 11, "1 00 " + length + " 10 100 000");
      fault(types, 3, 2, told == 0 ? -1 : 21, "1 01 00000010 00 " + length);
    }
    fault(types, 3, 1, 11, "1 00 11111111 10 100 000");
    fault(types, 3, 1, 11, "1 01 00000011 00 00000000");
  }

  private static void bitsLeftBehindTheValue() {
    Refusal.State types = EdgesOfReadingTest::withRanges;
    fault(types, 0, 0, -1, "100");
    fault(types, 0, 0, 3, "100 0");
    fault(types, 0, 0, 3, "100 1");
    fault(types, 0, 0, 3, "100" + "1".repeat(237));
    fault(types, 2, 0, 5, "00 100 000");
    fault(types, 4, 0, 5, "00 100 1");
    fault(withAdditions(0), 1, 0, 2, "0 0 0");
    fault(withAdditions(1), 1, 0, 2, "0 0 00 00000010 10");
    for (int known = 0; known <= 3; known++) {
      fault(withAdditions(1), 1, known, 14, "1 0 00 00000010 10 0");
      fault(withAdditions(2), 1, known, 14, "1 0 00 00000010 10 00000010 10");
    }
    fault(withAdditions(1), 1, 0, 16, "1 0 00 00000100 1010 1");
  }

  /** What was told is compared behind the addition, whatever its bits and those behind them are. */
  private static void additionIsReadAsIfNothingWasTold() {
    Refusal.State types = EdgesOfReadingTest::withListAsAddition;
    fault(types, 3, 1, 13, "1 00 00000010 01 101");
    fault(types, 3, 1, 13, "1 00 00000010 01");
    fault(types, 3, 1, 15, "1 00 00000010 01 10");
    fault(types, 3, 1, 11, "1 00 00000010 01 100");
    fault(types, 3, 1, 13, "1 00 00001111 01 111");
    fault(types, 3, 1, 11, "1 00 00000010 11");
    fault(types, 3, 1, 12, "1 00 00000000 0");
    fault(types, 3, 1, 11, "1 00 00000000");
    fault(types, 3, 1, 11, "1 00 00001000 01 100 000");
    fault(types, 3, 2, 11, "1 01 00000100 01 100 00000000");
    fault(types, 3, 2, 21, "1 01 00000010 00 00000001 0");
    fault(types, 3, 2, 21, "1 01 00000010 00 00000001");
  }

  private static void skippedBitsAreNotLookedAt() {
    Refusal.State types = EdgesOfReadingTest::withListAsAddition;
    heard(types, 3, 0, "1 00 00000010 11", 0, 7);
    heard(types, 3, 0, "1 00 00000001 1", 0, 7);
    heard(types, 3, 0, "1 00 00000000", 0, 7);
    heard(types, 3, 0, "1 00 00001111 111111111111111", 0, 7);
    heard(types, 3, 0, "1 01 00000011 111 00000101 11111", 0, 7);
    heard(types, 3, 1, "1 01 00000101 01 011 00000101 11111", 1, 7, 1, 3);
    fault(types, 3, 1, 11, "1 01 00000011 11100000 00000000");
    fault(types, 3, 0, 19, "1 01 00000011 111 00000");
  }

  private static void firstFaultOfReadingCounts() {
    Refusal.State types = EdgesOfReadingTest::withRanges;
    fault(types, 2, 0, 2, "10 101 111 111");
    fault(types, 2, 0, 2, "10 111 1");
    fault(types, 2, 0, 5, "10 000 110 111 1");
    fault(types, 2, 0, 8, "10 000 001 111 1");
    fault(types, 2, 0, 0, "11 111 1");
    fault(types, 4, 0, 0, "11 1");
    fault(types, 4, 0, 2, "10 111 111");
    fault(withAdditions(0), 1, 0, 2, "1 1 11 11");
    fault(withAdditions(1), 1, 1, 2, "1 1 11 01 00000001 11");
    fault(withAdditions(1), 1, 1, 4, "1 1 00 01 00000001 11");
    fault(withAdditions(1), 1, 1, 4, "1 1 00 11 00000001 1");
    fault(withAdditions(2), 1, 2, 12, "1 0 01 00000010 11 00000001 11");
    fault(withAdditions(2), 1, 2, 12, "1 0 01 00000011 10 00000001 11");
    fault(withAdditions(2), 1, 2, 12, "1 0 01 00000011 10 0000");
    fault(withAdditions(2), 1, 2, 12, "1 0 01 00000001 11 0000");
    fault(withAdditions(2), 1, 2, 22, "1 0 01 00000010 10 00000011 11 1");
    fault(withAdditions(2), 1, 2, 22, "1 0 01 00000010 10 00000011 10 1");
    fault(withAdditions(2), 1, 1, 12, "1 0 01 00000011 10 11111111 1");
    fault(withAdditions(2), 1, 1, 23, "1 0 01 00000010 10 11111111 1");
    fault(withAdditions(2), 1, 0, 23, "1 0 01 00000010 11 11111111 1");
  }

  /** A list of choices of a sequence, or a number: the sequence has additions, and so has a part. */
  private static BitNotation withNests() {
    BitNotation codec = new BitNotation();
    codec.addNumber(0, 2);
    codec.part(0, false);
    codec.addSequence();
    codec.extend(1, 0);
    codec.extend(1, 0);
    codec.part(1, true);
    codec.addSequence();
    codec.extend(2, 1);
    codec.part(0, false);
    codec.part(2, false);
    codec.part(0, false);
    codec.addChoice();
    codec.addList(3, 0, 2);
    return codec;
  }

  private static void faultsWithinParts() {
    Refusal.State types = EdgesOfReadingTest::withNests;
    fault(types, 4, 3, 0, "11");
    fault(types, 4, 3, 2, "01 11");
    fault(types, 4, 3, 4, "01 00 11");
    fault(types, 4, 3, 7, "01 01 0 1 0 11");
    fault(types, 4, 3, 9, "01 01 0 1 1 00 10");
    fault(types, 4, 3, 19, "01 01 0 1 1 00 00 00000010 11");
    fault(types, 4, 3, 19, "01 01 0 1 1 00 00 00000011 10");
    fault(types, 4, 3, 21, "01 01 0 1 1 00 00 00000010 10 0");
    fault(types, 4, 3, -1, "01 01 0 1 1 00 00 00000010 10");
    fault(types, 4, 3, 6, "01 01 1 0 01");
    fault(types, 4, 3, 17, "01 01 1 0 00 00000011 0 11");
    fault(types, 4, 3, 16, "01 01 1 0 00 00000010 0 10");
    fault(types, 4, 3, 29, "01 01 1 0 00 00000011 1 10 00 00000011 10");
    fault(types, 4, 3, 16, "01 01 1 0 00 00000011 1 10 00 00000010 10");
    fault(types, 4, 3, -1, "01 01 1 0 00 00001111 1 10 00 00000010 10");
    fault(types, 4, 0, -1, "01 01 1 0 00 00000011 1 11");
  }

  private static final String THREE = "1 1 01 10 00000010 00 00000010 01 00000010 10";

  private static void readerKnowsFewerAdditions() {
    int[][] tales = {{1, 0, 1}, {1, 1, 1, 0}, {1, 2, 1, 0, 1}, {1, 3, 1, 0, 1, 2}};
    for (int known = 0; known <= 3; known++) {
      heard(withAdditions(3), 1, known, THREE, tales[known]);
      heard(withAdditions(3), 1, known, "0 1 01", 1, 0, 1);
      heard(withAdditions(1), 1, known, "1 0 00 00000010 10",
          known == 0 ? new int[] {0, 0} : new int[] {0, 1, 2});
      heard(withAdditions(2), 1, known, "1 0 01 00000010 10 00000010 01",
          known == 0 ? new int[] {0, 0}
              : known == 1 ? new int[] {0, 1, 2} : new int[] {0, 2, 2, 1});
    }
  }

  /** The reader knows as many of each sequence: of those in lists, choices, parts and additions. */
  private static void readerKnowsFewerWithinAdditions() {
    Refusal.State types = EdgesOfReadingTest::withNests;
    String part = " 1 10 01 00000010 00 00000010 01";
    String added = " 1 01 01 00000010 01 00000010 10";
    String row = "10 01 1 1" + part + " 00 00011001" + added + " 00 10";
    heard(types, 4, 0, row, 2, 1, 1, 0, 0, 2, 0, 2);
    heard(types, 4, 1, row, 2, 1, 1, 1, 1, 2, 0, 1, 1, 1, 0, 2);
    heard(types, 4, 2, row, 2, 1, 1, 1, 2, 2, 0, 1, 2, 1, 1, 2, 0, 2);
    heard(types, 4, 3, row, 2, 1, 1, 1, 2, 2, 0, 1, 2, 1, 1, 2, 0, 2);
  }

  /** The most bits that can be passed over are 229: 240 less 1, 2 and 8. */
  private static void longestSkipped() {
    Refusal.State types = EdgesOfReadingTest::withListAsAddition;
    heard(types, 3, 0, "1 00 11100101" + "1".repeat(229), 0, 7);
    fault(types, 3, 0, 240, "1 00 11100110" + "1".repeat(229));
    fault(types, 3, 0, 239, "1 00 11100100" + "1".repeat(229));
    fault(types, 3, 0, 239, "1 00 11100101" + "1".repeat(228));
    fault(types, 3, 0, 240, "1 00 11111111" + "1".repeat(229));
    fault(types, 3, 1, 11, "1 00 11100101 01 011" + "1".repeat(224));
  }
}
