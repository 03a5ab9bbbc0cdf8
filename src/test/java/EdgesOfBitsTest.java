/** Promises 16 to 20, sentence by sentence: the last that is allowed, and the first that is not. */
public final class EdgesOfBitsTest {
  private static final Class<IllegalArgumentException> ARGUMENT = Refusal.ARGUMENT;
  private static final Class<IllegalStateException> STATE = Refusal.STATE;
  private static final Class<IndexOutOfBoundsException> INDEX = Refusal.INDEX;
  private static final int LOWEST = Integer.MIN_VALUE;
  private static final int HIGHEST = Integer.MAX_VALUE;

  public static void main(String[] args) {
    writeNoSuchType();
    writeNoTaleOfAValue();
    writeInPlaceOfTheBits();
    writtenEnds();
    writtenFlags();
    writtenNumbersOfAdditions();
    writtenLengthsOfAdditions();
    writtenNothingAndMost();
    countsOfBits();
    bitAtTheEnds();
    flipAtTheEnds();
    flipTurnsOneBit();
    cutAtTheEnds();
    cutThatIsRefused();
    bitsThatWereCutOffAreGone();
    Due.finish();
  }

  // ---- promise 16

  private static BitNotation telling(int... tale) {
    BitNotation codec = States.some();
    Due.tell(codec, tale);
    return codec;
  }

  private static void writeNoSuchType() {
    for (int none : new int[] {4, -1, 5, 15, 16, LOWEST, HIGHEST}) {
      String call = "write(" + none + ")";
      Refusal.of(call, INDEX, () -> telling(5), x -> x.write(none));
      Refusal.of(call + " of a tale of no value", INDEX, States::some, x -> x.write(none));
      Refusal.of(call + " of an empty tale", INDEX, EdgesOfBitsTest::telling, x -> x.write(none));
    }
    for (int none : new int[] {16, -1, LOWEST, HIGHEST}) {
      Refusal.of("write(" + none + ") of 16 types", INDEX, States::full, x -> x.write(none));
    }
    Due.answers("write of the first type", 3, () -> telling(5).write(0));
    Due.answers("write of the last type", 4, () -> telling(0, 5).write(3));
  }

  private static void writeNoTaleOfAValue() {
    int[][] none = {{}, {6}, {-1}, {5, 0}};
    for (int[] tale : none) {
      Refusal.of("write of no number", STATE, () -> telling(tale), x -> x.write(0));
    }
    int[][] noLists = {{}, {0}, {3, 0, 0, 0}, {1}, {2, 0}, {1, 6}, {2, 0, 6}, {1, 0, 0}};
    for (int[] tale : noLists) {
      Refusal.of("write of no list", STATE, () -> telling(tale), x -> x.write(1));
    }
    int[][] noSequences = {{}, {2, 0, 0}, {-1, 0, 0}, {0, 2, 0}, {0, -1, 0}, {0}, {0, 0}, {0, 0, 6},
        {1, 0, 0}, {1, 0, 0, 3}, {0, 1, 0}, {0, 1, 0, 6}, {0, 0, 0, 0}, {0, 1, 0, 0, 0}};
    for (int[] tale : noSequences) {
      Refusal.of("write of no sequence", STATE, () -> telling(tale), x -> x.write(2));
    }
    int[][] noChoices = {{}, {2, 0}, {-1, 0}, {0}, {0, 6}, {1}, {1, 0, 0, 6}, {0, 0, 0}};
    for (int[] tale : noChoices) {
      Refusal.of("write of no choice", STATE, () -> telling(tale), x -> x.write(3));
    }
    Refusal.of("write of 300 numbers", STATE, States::full, x -> x.write(2));
  }

  private static void writeInPlaceOfTheBits() {
    BitNotation codec = States.full();
    Due.tell(codec, 9);
    Due.answers("write of 5 bits in place of 240", 5, () -> codec.write(0));
    Due.bits("5 bits in place of 240", codec, "01001");
    Due.tale("which it was written of", codec, 9);
    Due.refuses("bit(5) of 5 bits", INDEX, () -> codec.bit(5));
    BitNotation fewer = States.some();
    Due.tell(fewer, 1, 0, 0, 2, 4, 3);
    Due.answers("write of 12 bits in place of 7", 12, () -> fewer.write(2));
    Due.bits("12 bits in place of 7", fewer, "0 1 000 1 100 011");
    Due.answers("write again", 12, () -> fewer.write(2));
    Due.bits("12 bits in place of the same", fewer, "0 1 000 1 100 011");
    Due.tale("which they were written of", fewer, 1, 0, 0, 2, 4, 3);
  }

  private static void written(BitNotation codec, int type, String due, int... tale) {
    Due.tell(codec, tale);
    Due.answers("write(" + type + ")", due.replace(" ", "").length(), () -> codec.write(type));
    Due.bits("written as type " + type, codec, due);
    Due.tale("written as type " + type, codec, tale);
    codec.forget();
    Due.answers("read(" + type + ", 3)", tale.length, () -> codec.read(type, 3));
    Due.tale("read as type " + type, codec, tale);
  }

  /** The least and the greatest number, size and choice. */
  private static void writtenEnds() {
    BitNotation codec = new BitNotation();
    codec.addNumber(-1000, 1000);
    codec.addNumber(-4, 3);
    codec.addList(1, 5, 8);
    for (int i = 0; i < 6; i++) {
      codec.part(1, false);
    }
    codec.addChoice();
    codec.addList(1, 0, 8);
    written(codec, 0, "00000000000", -1000);
    written(codec, 0, "11111010000", 1000);
    written(codec, 1, "000", -4);
    written(codec, 1, "111", 3);
    written(codec, 2, "00 000 001 010 011 100", 5, -4, -3, -2, -1, 0);
    written(codec, 2, "11 111 110 101 100 011 010 001 000", 8, 3, 2, 1, 0, -1, -2, -3, -4);
    written(codec, 3, "000 111", 0, 3);
    written(codec, 3, "101 000", 5, -4);
    written(codec, 4, "0000", 0);
    written(codec, 4, "1000 000 000 000 000 000 000 000 111", 8, -4, -4, -4, -4, -4, -4, -4, 3);
  }

  private static void writtenFlags() {
    BitNotation codec = new BitNotation();
    codec.addNumber(0, 1);
    codec.part(0, true);
    codec.part(0, false);
    codec.part(0, true);
    codec.part(0, false);
    codec.part(0, false);
    codec.part(0, true);
    codec.addSequence();
    written(codec, 1, "0 000 101", 0, 0, 0, 0, 1, 0, 1);
    written(codec, 1, "0 100 0 101", 1, 0, 0, 0, 0, 1, 0, 1);
    written(codec, 1, "0 010 1 0 01", 0, 1, 0, 0, 1, 0, 0, 1);
    written(codec, 1, "0 001 111 0", 0, 0, 1, 0, 1, 1, 1, 0);
    written(codec, 1, "0 111 101101", 1, 1, 1, 0, 1, 0, 1, 1, 0, 1);
  }

  private static void writtenNumbersOfAdditions() {
    BitNotation codec = new BitNotation();
    codec.addNumber(0, 7);
    codec.part(0, false);
    codec.addSequence();
    written(codec, 1, "0 110", 0, 6);
    for (int i = 0; i < 3; i++) {
      codec.extend(1, 0);
    }
    written(codec, 1, "0 110", 0, 6);
    written(codec, 1, "1 110 00 00000011 001", 1, 6, 1);
    written(codec, 1, "1 110 01 00000011 001 00000011 010", 2, 6, 1, 2);
    written(codec, 1, "1 110 10 00000011 001 00000011 010 00000011 011", 3, 6, 1, 2, 3);
  }

  /** An addition of no bits has its 8 bits, all 0; the longest that there can be has 229 bits. */
  private static void writtenLengthsOfAdditions() {
    BitNotation none = new BitNotation();
    none.addNumber(8, 8);
    none.part(0, false);
    none.addSequence();
    none.extend(1, 0);
    written(none, 1, "1 00 00000000", 1, 8, 8);
    BitNotation codec = new BitNotation();
    int most = States.typeOfBits(codec, 229);
    int nothing = codec.addNumber(0, 0);
    codec.part(nothing, false);
    int sequence = codec.addSequence();
    Due.refuses("extend by a later type", ARGUMENT, () -> codec.extend(most, sequence));
    codec.extend(sequence, most);
    codec.forget();
    for (int number : new int[] {1, 0, 0}) {
      codec.tell(number);
    }
    tellLongest(codec);
    Due.answers("write of an addition of 229 bits", 240, () -> codec.write(sequence));
    int due = Integer.parseInt("1" + "00" + "11100101", 2);
    int head = 0;
    for (int i = 0; i < 11; i++) {
      head = head << 1 | codec.bit(i);
    }
    Due.holds("the length of 229 bits is not told", head == due);
    Due.answers("read of an addition of 229 bits", 29, () -> codec.read(sequence, 1));
    Due.answers("read of a skipped addition", 2, () -> codec.read(sequence, 0));
  }

  /** Tells the rest of a tale of a type of 229 bits: 2 lists of 8, one of 6, and a number. */
  private static void tellLongest(BitNotation codec) {
    for (int size : new int[] {8, 8, 6}) {
      codec.tell(size);
      for (int i = 0; i < size; i++) {
        codec.tell(-500);
      }
    }
    codec.tell(255);
  }

  private static void writtenNothingAndMost() {
    BitNotation codec = States.full();
    Due.tell(codec, 3);
    Refusal.of("write of no list, of 16 types", STATE, States::full, x -> x.write(1));
    codec.forget();
    codec.read(2, 0);
    Due.answers("write of 240 bits", 240, () -> codec.write(2));
    Due.answers("bits() of 240", 240, codec::bits);
    BitNotation none = States.bits(new BitNotation(), "1".repeat(240));
    none.addNumber(6, 6);
    Due.tell(none, 6);
    Due.answers("write of no bits in place of 240", 0, () -> none.write(3));
    Due.answers("bits() of none", 0, none::bits);
    Due.refuses("bit(0) of none", INDEX, () -> none.bit(0));
    Due.answers("read of no bits", 1, () -> none.read(3, 0));
  }

  // ---- promise 17

  private static void countsOfBits() {
    Due.answers("bits() of a new object", 0, new BitNotation()::bits);
    Due.answers("bits() of 7", 7, States.some()::bits);
    Due.answers("bits() of 240", 240, States.full()::bits);
    BitNotation codec = States.some();
    codec.forget();
    Due.answers("bits() behind forget()", 7, codec::bits);
    codec.tell(1);
    Due.answers("bits() behind tell", 7, codec::bits);
    codec.flip(6);
    Due.answers("bits() behind flip", 7, codec::bits);
    codec.cut(1);
    Due.answers("bits() behind cut(1)", 1, codec::bits);
  }

  // ---- promises 18 and 19

  private static void bitAtTheEnds() {
    Due.answers("bit(0) of 7", 1, () -> States.some().bit(0));
    Due.answers("bit(6) of 7", 0, () -> States.some().bit(6));
    Due.answers("bit(0) of 240", 1, () -> States.full().bit(0));
    Due.answers("bit(238) of 240", 1, () -> States.full().bit(238));
    Due.answers("bit(239) of 240", 1, () -> States.full().bit(239));
    for (int none : new int[] {7, -1, 8, 239, 240, LOWEST, HIGHEST}) {
      Refusal.of("bit(" + none + ") of 7", INDEX, States::some, x -> x.bit(none));
    }
    for (int none : new int[] {240, -1, 241, LOWEST, HIGHEST}) {
      Refusal.of("bit(" + none + ") of 240", INDEX, States::full, x -> x.bit(none));
    }
    for (int none : new int[] {0, 1, -1, 239, 240}) {
      Refusal.of("bit(" + none + ") of none", INDEX, BitNotation::new, x -> x.bit(none));
    }
  }

  private static void flipAtTheEnds() {
    Due.answers("flip(0) of 7", 0, () -> States.some().flip(0));
    Due.answers("flip(6) of 7", 1, () -> States.some().flip(6));
    Due.answers("flip(0) of 240", 0, () -> States.full().flip(0));
    Due.answers("flip(239) of 240", 0, () -> States.full().flip(239));
    for (int none : new int[] {7, -1, 8, 239, 240, LOWEST, HIGHEST}) {
      Refusal.of("flip(" + none + ") of 7", INDEX, States::some, x -> x.flip(none));
    }
    for (int none : new int[] {240, -1, 241, LOWEST, HIGHEST}) {
      Refusal.of("flip(" + none + ") of 240", INDEX, States::full, x -> x.flip(none));
    }
    for (int none : new int[] {0, 1, -1, 239, 240}) {
      Refusal.of("flip(" + none + ") of none", INDEX, BitNotation::new, x -> x.flip(none));
    }
  }

  private static void flipTurnsOneBit() {
    String digits = "1101100";
    for (int i = 0; i < 7; i++) {
      int place = i;
      int due = '1' - digits.charAt(i);
      BitNotation codec = States.some();
      Due.answers("flip(" + i + ")", due, () -> codec.flip(place));
      Due.bits("behind flip(" + i + ")", codec,
          digits.substring(0, i) + due + digits.substring(i + 1));
      Due.answers("flip(" + i + ") again", 1 - due, () -> codec.flip(place));
      Due.bits("behind flip(" + i + ") twice", codec, digits);
      Due.tale("behind flip(" + i + ")", codec, 2, 5, 4, 9);
    }
  }

  // ---- promise 20

  private static void cutAtTheEnds() {
    Due.answers("cut(0) of none", 0, () -> new BitNotation().cut(0));
    for (int left = 0; left <= 7; left++) {
      int some = left;
      BitNotation codec = States.some();
      Due.answers("cut(" + left + ") of 7", 7 - left, () -> codec.cut(some));
      Due.bits("behind cut(" + left + ")", codec, "1101100".substring(0, left));
      Due.tale("behind cut(" + left + ")", codec, 2, 5, 4, 9);
      Due.answers("cut(" + left + ") again", 0, () -> codec.cut(some));
      Due.answers("cut(0) behind it", left, () -> codec.cut(0));
    }
    for (int left : new int[] {240, 239, 1, 0}) {
      BitNotation codec = States.full();
      Due.answers("cut(" + left + ") of 240", 240 - left, () -> codec.cut(left));
      Due.answers("bits() behind it", left, codec::bits);
    }
  }

  private static void cutThatIsRefused() {
    for (int left : new int[] {-1, 1, 240, LOWEST, HIGHEST}) {
      Refusal.of("cut(" + left + ") of none", ARGUMENT, BitNotation::new, x -> x.cut(left));
    }
    for (int left : new int[] {-1, 8, 9, 240, LOWEST, HIGHEST}) {
      Refusal.of("cut(" + left + ") of 7", ARGUMENT, States::some, x -> x.cut(left));
    }
    for (int left : new int[] {-1, 241, 242, LOWEST, HIGHEST}) {
      Refusal.of("cut(" + left + ") of 240", ARGUMENT, States::full, x -> x.cut(left));
    }
  }

  private static void bitsThatWereCutOffAreGone() {
    Refusal.State cut = () -> {
      BitNotation codec = States.some();
      codec.cut(3);
      return codec;
    };
    Due.answers("bit(2) of 3 left", 0, () -> cut.make().bit(2));
    Refusal.of("bit(3) of 3 left", INDEX, cut, x -> x.bit(3));
    Refusal.of("flip(3) of 3 left", INDEX, cut, x -> x.flip(3));
    Refusal.of("cut(4) of 3 left", ARGUMENT, cut, x -> x.cut(4));
    Due.answers("faultAt of 3 left", 1, () -> cut.make().faultAt(1, 0) == 3 ? 1 : 0);
    BitNotation codec = cut.make();
    Due.tell(codec, 1, 0);
    Due.answers("write behind cut(3)", 4, () -> codec.write(1));
    Due.bits("written behind cut(3)", codec, "0 000");
  }
}
