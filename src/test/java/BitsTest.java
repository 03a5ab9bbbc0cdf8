/** Promises 16 to 22: the bits, written and read, and their faults. */
public final class BitsTest {
  private static final Class<IllegalArgumentException> ARGUMENT = IllegalArgumentException.class;
  private static final Class<IllegalStateException> STATE = IllegalStateException.class;
  private static final Class<IndexOutOfBoundsException> INDEX = IndexOutOfBoundsException.class;

  public static void main(String[] args) {
    writtenNumbers();
    writtenLists();
    writtenSequences();
    writtenAdditions();
    writtenChoices();
    refusedWriting();
    bitsAndFlips();
    cuts();
    readValues();
    refusedReading();
    faultsOfRanges();
    faultsOfLackingBits();
    faultsOfNumbersOfAdditions();
    faultsOfLengths();
    faultsBehindTheValue();
    skippedAdditions();
    additionsOfAdditions();
    longestValue();
    Due.finish();
  }

  /** Writes the tale, and reads with all additions what was written. */
  private static void written(BitNotation codec, int type, String due, int... tale) {
    Due.tell(codec, tale);
    Due.answers("write(" + type + ")", due.replace(" ", "").length(), () -> codec.write(type));
    Due.bits("after write(" + type + ")", codec, due);
    Due.answers("bits()", due.replace(" ", "").length(), codec::bits);
    Due.tale("after write(" + type + ")", codec, tale);
    Due.answers("faultAt(" + type + ", 3)", -1, () -> codec.faultAt(type, 3));
    codec.forget();
    Due.answers("read(" + type + ", 3)", tale.length, () -> codec.read(type, 3));
    Due.tale("after read(" + type + ", 3)", codec, tale);
    Due.bits("after read(" + type + ", 3)", codec, due);
  }

  /** Makes these the bits: writes them as octets, by the last type, and cuts off what is over. */
  private static void make(BitNotation codec, String digits) {
    StringBuilder wanted = new StringBuilder(digits.replace(" ", ""));
    int left = wanted.length();
    while (wanted.length() < 64) {
      wanted.append('0');
    }
    codec.forget();
    codec.tell(8);
    for (int i = 0; i < 8; i++) {
      codec.tell(Integer.parseInt(wanted.substring(i * 8, i * 8 + 8), 2));
    }
    codec.write(codec.types() - 1);
    codec.cut(left);
  }

  /** A last type for make: 8 octets. */
  private static BitNotation withMaker(BitNotation codec) {
    codec.addList(codec.addNumber(0, 255), 8, 8);
    return codec;
  }

  private static void writtenNumbers() {
    BitNotation codec = new BitNotation();
    codec.addNumber(7, 7);
    codec.addNumber(-1000, 1000);
    codec.addNumber(-3, 1);
    written(codec, 0, "", 7);
    written(codec, 1, "00000000000", -1000);
    written(codec, 1, "11111010000", 1000);
    written(codec, 1, "01111101000", 0);
    written(codec, 1, "00000000001", -999);
    written(codec, 2, "000", -3);
    written(codec, 2, "011", 0);
    written(codec, 2, "100", 1);
  }

  private static void writtenLists() {
    BitNotation codec = new BitNotation();
    codec.addNumber(0, 5);
    codec.addList(0, 0, 8);
    codec.addList(0, 2, 3);
    codec.addList(0, 2, 2);
    codec.addList(2, 0, 2);
    written(codec, 1, "0000", 0);
    written(codec, 1, "0001 101", 1, 5);
    written(codec, 1, "1000 000 001 010 011 100 101 000 001", 8, 0, 1, 2, 3, 4, 5, 0, 1);
    written(codec, 2, "0 001 100", 2, 1, 4);
    written(codec, 2, "1 001 100 000", 3, 1, 4, 0);
    written(codec, 3, "101 010", 2, 5, 2);
    written(codec, 4, "10 0 001 010 1 011 100 101", 2, 2, 1, 2, 3, 3, 4, 5);
  }

  private static void writtenSequences() {
    BitNotation codec = new BitNotation();
    codec.addNumber(0, 5);
    codec.addNumber(-3, 12);
    codec.part(0, false);
    codec.part(1, true);
    codec.part(0, true);
    codec.addSequence();
    codec.part(1, true);
    codec.addSequence();
    written(codec, 2, "0 00 101", 0, 0, 0, 5);
    written(codec, 2, "0 10 101 1111", 1, 0, 0, 5, 12);
    written(codec, 2, "0 01 101 010", 0, 1, 0, 5, 2);
    written(codec, 2, "0 11 001 0100 011", 1, 1, 0, 1, 1, 3);
    written(codec, 3, "0 0", 0, 0);
    written(codec, 3, "0 1 0011", 1, 0, 0);
  }

  private static void writtenAdditions() {
    BitNotation codec = new BitNotation();
    codec.addNumber(0, 5);
    codec.addNumber(-3, 12);
    codec.addNumber(1, 1);
    codec.part(0, true);
    codec.addSequence();
    codec.extend(3, 1);
    written(codec, 3, "0 0", 0, 0);
    written(codec, 3, "1 0 00 00000100 1111", 0, 1, 12);
    codec.extend(3, 2);
    codec.extend(3, 0);
    written(codec, 3, "0 1 100", 1, 0, 4);
    written(codec, 3, "1 0 00 00000100 0000", 0, 1, -3);
    written(codec, 3, "1 1 011 01 00000100 0010 00000000", 1, 2, 3, -1, 1);
    written(codec, 3, "1 0 10 00000100 0010 00000000 00000011 101", 0, 3, -1, 1, 5);
  }

  private static void writtenChoices() {
    BitNotation codec = new BitNotation();
    codec.addNumber(0, 2);
    codec.addNumber(0, 100);
    codec.part(0, true);
    codec.part(1, false);
    codec.addChoice();
    codec.part(2, false);
    codec.addChoice();
    codec.part(0, false);
    codec.part(0, false);
    codec.part(2, false);
    codec.part(1, false);
    codec.part(0, false);
    codec.addChoice();
    written(codec, 2, "0 10", 0, 2);
    written(codec, 2, "1 1001101", 1, 77);
    written(codec, 3, "1 1001101", 0, 1, 77);
    written(codec, 4, "000 01", 0, 1);
    written(codec, 4, "001 10", 1, 2);
    written(codec, 4, "010 0 00", 2, 0, 0);
    written(codec, 4, "011 1100100", 3, 100);
    written(codec, 4, "100 01", 4, 1);
  }

  private static void refusedWriting() {
    BitNotation codec = new BitNotation();
    Due.refuses("write(0) without types", INDEX, () -> codec.write(0));
    codec.addNumber(0, 5);
    codec.addList(0, 1, 2);
    Due.tell(codec, 2, 5, 4);
    codec.write(1);
    for (int type : new int[] {2, -1, 16, Integer.MAX_VALUE, Integer.MIN_VALUE}) {
      Due.refuses("write(" + type + ")", INDEX, () -> codec.write(type));
    }
    Due.refuses("write of a number too many", STATE, () -> codec.write(0));
    Due.tell(codec, 2, 1, 6);
    Due.refuses("write of a number out of range", STATE, () -> codec.write(1));
    Due.tell(codec, 2, 1);
    Due.refuses("write of a tale that ends too early", STATE, () -> codec.write(1));
    Due.tale("after refused writing", codec, 2, 1);
    Due.bits("after refused writing", codec, "1 101 100");
    Due.tell(codec, 1, 3);
    Due.answers("write of fewer bits", 4, () -> codec.write(1));
    Due.bits("after writing in place of others", codec, "0 011");
  }

  private static void bitsAndFlips() {
    BitNotation codec = new BitNotation();
    codec.addNumber(0, 7);
    Due.refuses("bit(0) without bits", INDEX, () -> codec.bit(0));
    Due.refuses("flip(0) without bits", INDEX, () -> codec.flip(0));
    Due.tell(codec, 4);
    codec.write(0);
    Due.answers("bit(0)", 1, () -> codec.bit(0));
    Due.answers("bit(2)", 0, () -> codec.bit(2));
    Due.answers("flip(0)", 0, () -> codec.flip(0));
    Due.answers("flip(2)", 1, () -> codec.flip(2));
    Due.bits("after two flips", codec, "001");
    Due.answers("flip(2) again", 0, () -> codec.flip(2));
    for (int place : new int[] {3, -1, 239, 240, Integer.MAX_VALUE, Integer.MIN_VALUE}) {
      Due.refuses("bit(" + place + ")", INDEX, () -> codec.bit(place));
      Due.refuses("flip(" + place + ")", INDEX, () -> codec.flip(place));
    }
    Due.bits("after a third", codec, "000");
    Due.tale("after flips", codec, 4);
  }

  private static void cuts() {
    BitNotation codec = new BitNotation();
    codec.addNumber(0, 31);
    Due.answers("cut(0) without bits", 0, () -> codec.cut(0));
    Due.refuses("cut(1) without bits", ARGUMENT, () -> codec.cut(1));
    Due.tell(codec, 25);
    codec.write(0);
    for (int left : new int[] {6, -1, Integer.MAX_VALUE, Integer.MIN_VALUE}) {
      Due.refuses("cut(" + left + ") of five bits", ARGUMENT, () -> codec.cut(left));
    }
    Due.answers("cut(5) of five bits", 0, () -> codec.cut(5));
    Due.answers("cut(3) of five bits", 2, () -> codec.cut(3));
    Due.bits("after cut(3)", codec, "110");
    Due.refuses("bit(3) after cut(3)", INDEX, () -> codec.bit(3));
    Due.refuses("cut(4) of three bits", ARGUMENT, () -> codec.cut(4));
    Due.answers("cut(0) of three bits", 3, () -> codec.cut(0));
    Due.answers("bits() after cut(0)", 0, codec::bits);
    Due.tale("after cuts", codec, 25);
  }

  private static void readValues() {
    BitNotation codec = new BitNotation();
    codec.addNumber(-3, 4);
    codec.addList(0, 1, 4);
    codec.addNumber(7, 7);
    withMaker(codec);
    make(codec, "01 111 000");
    Due.answers("read of a list", 3, () -> codec.read(1, 0));
    Due.tale("after read of a list", codec, 2, 4, -3);
    make(codec, "110");
    Due.answers("read of a number", 1, () -> codec.read(0, 3));
    Due.tale("after read of a number", codec, 3);
    make(codec, "");
    Due.answers("read of a number without bits", 1, () -> codec.read(2, 1));
    Due.tale("after read of a number without bits", codec, 7);
  }

  private static void refusedReading() {
    BitNotation codec = new BitNotation();
    Due.refuses("read(0, 0) without types", INDEX, () -> codec.read(0, 0));
    Due.refuses("faultAt(0, 4) without types", INDEX, () -> codec.faultAt(0, 4));
    codec.addNumber(0, 5);
    Due.tell(codec, 5);
    codec.write(0);
    codec.flip(1);
    Due.tell(codec, 900, 901);
    for (int type : new int[] {1, -1, 16, Integer.MAX_VALUE, Integer.MIN_VALUE}) {
      Due.refuses("read(" + type + ", 0)", INDEX, () -> codec.read(type, 0));
      Due.refuses("read(" + type + ", 4)", INDEX, () -> codec.read(type, 4));
      Due.refuses("faultAt(" + type + ", 0)", INDEX, () -> codec.faultAt(type, 0));
      Due.refuses("faultAt(" + type + ", -1)", INDEX, () -> codec.faultAt(type, -1));
    }
    for (int known : new int[] {4, -1, Integer.MAX_VALUE, Integer.MIN_VALUE}) {
      Due.refuses("read(0, " + known + ")", ARGUMENT, () -> codec.read(0, known));
      Due.refuses("faultAt(0, " + known + ")", ARGUMENT, () -> codec.faultAt(0, known));
    }
    for (int known = 0; known <= 3; known++) {
      int some = known;
      Due.refuses("read(0, " + known + ") of a fault", STATE, () -> codec.read(0, some));
      Due.answers("faultAt(0, " + known + ") of a fault", 0, () -> codec.faultAt(0, some));
    }
    Due.tale("after refused reading", codec, 900, 901);
    Due.bits("after refused reading", codec, "111");
    codec.flip(2);
    Due.refuses("read(0, 0) of a 6", STATE, () -> codec.read(0, 0));
    codec.flip(1);
    Due.answers("read(0, 0) of a 4", 1, () -> codec.read(0, 0));
    Due.tale("after read(0, 0) of a 4", codec, 4);
  }

  /** A new object with the types for a test; a new one each time, as one is good for 512 calls. */
  private interface Types {
    BitNotation make();
  }

  /** Makes the bits and looks for their fault; reading must be refused for it, and for it alone. */
  private static void fault(Types types, int type, int known, int due, String digits) {
    BitNotation codec = withMaker(types.make());
    make(codec, digits);
    String call = "(" + type + ", " + known + ") of " + digits;
    Due.answers("faultAt" + call, due, () -> codec.faultAt(type, known));
    Due.bits("after faultAt" + call, codec, digits);
    Due.answers("length() after faultAt" + call, 9, codec::length);
    if (due >= 0) {
      Due.refuses("read" + call, STATE, () -> codec.read(type, known));
      Due.answers("length() after a refused read" + call, 9, codec::length);
    } else {
      Due.answers("read" + call + " refuses nothing", 1, () -> codec.read(type, known) > 0 ? 1 : 0);
    }
  }

  private static BitNotation withRanges() {
    BitNotation codec = new BitNotation();
    codec.addNumber(-3, 2);
    codec.addList(0, 1, 3);
    codec.part(0, false);
    codec.part(1, false);
    codec.part(0, false);
    codec.addChoice();
    return codec;
  }

  private static void faultsOfRanges() {
    Types types = BitsTest::withRanges;
    fault(types, 0, 0, -1, "101");
    fault(types, 0, 0, 0, "110");
    fault(types, 1, 0, -1, "10 000 001 010");
    fault(types, 1, 0, 0, "11 000 001 010");
    fault(types, 1, 0, 2, "10 110 111 010");
    fault(types, 1, 0, 5, "10 101 111 010");
    fault(types, 1, 0, 8, "10 101 001 111 1");
    fault(types, 2, 0, -1, "10 101");
    fault(types, 2, 0, 0, "11 101");
    fault(types, 2, 0, 2, "10 111");
    fault(types, 2, 0, -1, "01 00 101");
    fault(types, 2, 0, 2, "01 11 101");
    fault(types, 2, 0, 4, "01 00 110");
  }

  private static BitNotation withOptionalParts() {
    BitNotation codec = new BitNotation();
    codec.addNumber(-3, 2);
    codec.addList(0, 1, 3);
    codec.part(0, true);
    codec.part(1, true);
    codec.addSequence();
    codec.extend(2, 0);
    return codec;
  }

  private static void faultsOfLackingBits() {
    Types types = BitsTest::withOptionalParts;
    String whole = "1 1 1 101 00 010 00 00000011 100";
    String row = whole.replace(" ", "");
    for (int left = 0; left < row.length(); left++) {
      fault(types, 2, 1, left, row.substring(0, left));
      fault(types, 2, 0, left, row.substring(0, left));
    }
    fault(types, 2, 1, -1, whole);
    fault(types, 2, 0, -1, whole);
    fault(types, 0, 0, 2, "11");
    fault(types, 1, 0, 1, "1");
    fault(types, 1, 0, 4, "01 11");
  }

  private static BitNotation withAdditions(int additions) {
    BitNotation codec = new BitNotation();
    codec.addNumber(0, 1);
    codec.addNumber(0, 2);
    codec.part(0, false);
    codec.addSequence();
    for (int i = 0; i < additions; i++) {
      codec.extend(2, 1);
    }
    return codec;
  }

  private static void faultsOfNumbersOfAdditions() {
    String one = "1 1 00 00000010 10";
    String two = "1 1 01 00000010 10 00000010 10";
    String three = "1 1 10 00000010 10 00000010 10 00000010 10";
    String four = "1 1 11 00000010 10 00000010 10 00000010 10 00000010 10";
    String[] rows = {one, two, three, four};
    for (int additions = 0; additions <= 3; additions++) {
      int has = additions;
      Types types = () -> withAdditions(has);
      for (int known = 0; known <= 3; known++) {
        for (int there = 1; there <= 4; there++) {
          fault(types, 2, known, there <= additions ? -1 : 2, rows[there - 1]);
        }
        fault(types, 2, known, 3, "1 1 0");
        fault(types, 2, known, 3, "1 1 1");
        fault(types, 2, known, 2, "1 1");
      }
    }
    fault(() -> withAdditions(1), 2, 1, 2, "1 1 01 00000010 11 00000010 10");
  }

  private static BitNotation withListAsAddition() {
    BitNotation codec = new BitNotation();
    codec.addNumber(0, 4);
    codec.addList(0, 0, 3);
    codec.part(0, true);
    codec.addSequence();
    codec.extend(2, 1);
    codec.extend(2, 0);
    return codec;
  }

  private static void faultsOfLengths() {
    Types types = BitsTest::withListAsAddition;
    fault(types, 2, 1, -1, "1 0 00 00000101 01 100");
    fault(types, 2, 1, 12, "1 0 00 00000100 01 100");
    fault(types, 2, 1, 12, "1 0 00 00000110 01 100 0");
    fault(types, 2, 1, 12, "1 0 00 00000000 01 100");
    fault(types, 2, 1, 12, "1 0 00 11111111 01 100");
    fault(types, 2, 1, 14, "1 0 00 00000100 01 101");
    fault(types, 2, 1, 16, "1 0 00 00000010 01 10");
    fault(types, 2, 1, 12, "1 0 01 00000010 01 100 00000011 000");
    fault(types, 2, 2, 25, "1 0 01 00000101 01 100 00000010 000");
    fault(types, 2, 2, -1, "1 0 01 00000101 01 100 00000011 000");
    fault(types, 2, 2, 28, "1 1 011 01 00000101 01 100 00000111 000");
    fault(types, 2, 1, 27, "1 0 01 00000101 01 100 00000010 000");
  }

  private static BitNotation withNumberAsAddition() {
    BitNotation codec = new BitNotation();
    codec.addNumber(0, 4);
    codec.addNumber(9, 9);
    codec.part(0, false);
    codec.addSequence();
    codec.extend(2, 0);
    return codec;
  }

  private static void faultsBehindTheValue() {
    Types types = BitsTest::withNumberAsAddition;
    fault(types, 0, 0, 3, "100 0");
    fault(types, 0, 0, 3, "100 11111");
    fault(types, 0, 0, 0, "101 11111");
    fault(types, 1, 0, 0, "1");
    fault(types, 1, 0, -1, "");
    fault(types, 2, 0, 4, "0 100 00 00000011 100");
    fault(types, 2, 1, 17, "1 100 00 00000011 100 1");
    fault(types, 2, 0, 17, "1 100 00 00000011 100 1");
  }

  private static BitNotation withThreeAdditions() {
    BitNotation codec = new BitNotation();
    codec.addNumber(0, 4);
    codec.addNumber(0, 8);
    codec.part(1, true);
    codec.addSequence();
    codec.extend(2, 0);
    codec.extend(2, 1);
    codec.extend(2, 0);
    return codec;
  }

  private static void skippedAdditions() {
    String row = "1 1 0110 10 00000011 001 00000100 1000 00000011 010";
    int[][] tales = {{1, 0, 6}, {1, 1, 6, 1}, {1, 2, 6, 1, 8}, {1, 3, 6, 1, 8, 2}};
    for (int known = 0; known <= 3; known++) {
      int some = known;
      BitNotation codec = withMaker(withThreeAdditions());
      make(codec, row);
      Due.answers("faultAt(2, " + known + ")", -1, () -> codec.faultAt(2, some));
      Due.answers("read(2, " + known + ")", 3 + known, () -> codec.read(2, some));
      Due.tale("after read(2, " + known + ")", codec, tales[known]);
      Due.bits("after read(2, " + known + ")", codec, row);
    }
    Types types = BitsTest::withThreeAdditions;
    fault(types, 2, 0, -1, "1 0 01 00000000 00001001 111111111");
    fault(types, 2, 0, 23, "1 0 01 00000000 00001001 111");
    fault(types, 2, 1, 12, "1 0 01 00000000 00001001 111111111");
    fault(types, 2, 0, -1, "1 0 00 00001000 11111111");
    fault(types, 2, 0, 20, "1 0 00 00001001 11111111");
    fault(types, 2, 0, 19, "1 0 00 00000111 11111111");
    fault(types, 2, 0, 12, "1 0 00 11111111");
    fault(types, 2, 0, -1, "1 0 00 00000000");
    fault(types, 2, 0, 10, "1 0 00 000000");
  }

  private static void additionsOfAdditions() {
    BitNotation codec = new BitNotation();
    codec.addNumber(0, 3);
    codec.part(0, false);
    codec.addSequence();
    codec.extend(1, 0);
    codec.extend(1, 0);
    codec.part(1, false);
    codec.addSequence();
    codec.extend(2, 1);
    codec.extend(2, 0);
    written(codec, 2, "1 1 01 01 00000010 10 00000010 11 00 00011001"
        + " 1 00 01 00000010 01 00000010 10", 1, 2, 1, 2, 3, 2, 0, 1, 2);
  }

  private static void longestValue() {
    BitNotation codec = new BitNotation();
    codec.addNumber(0, 31);
    codec.addList(0, 6, 6);
    codec.addList(1, 8, 8);
    codec.forget();
    codec.tell(8);
    StringBuilder digits = new StringBuilder();
    for (int i = 0; i < 48; i++) {
      if (i % 6 == 0) {
        codec.tell(6);
      }
      codec.tell(i % 32);
      digits.append(Integer.toBinaryString(32 + i % 32).substring(1));
    }
    Due.answers("write of 240 bits", 240, () -> codec.write(2));
    Due.bits("after write of 240 bits", codec, digits.toString());
    Due.answers("flip(239)", 0, () -> codec.flip(239));
    Due.refuses("flip(240)", INDEX, () -> codec.flip(240));
    Due.answers("read of 240 bits", 57, () -> codec.read(2, 0));
    Due.answers("told(56)", 14, () -> codec.told(56));
  }
}
