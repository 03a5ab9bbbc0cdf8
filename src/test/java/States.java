/** States to test in, and types and bits of any wanted length; the same ones every time. */
final class States {
  private States() {
  }

  /** Types of every kind, a draft of two parts, a tale and bits; none of them full. */
  static BitNotation some() {
    BitNotation codec = new BitNotation();
    codec.addNumber(0, 5);
    codec.addList(0, 1, 2);
    codec.part(0, false);
    codec.part(1, true);
    codec.addSequence();
    codec.extend(2, 0);
    codec.part(0, false);
    codec.part(2, false);
    codec.addChoice();
    Due.tell(codec, 2, 5, 4);
    codec.write(1);
    codec.tell(9);
    codec.part(2, false);
    codec.part(1, true);
    return codec;
  }

  /** 16 types, the sequence 3 with 3 additions, a draft of 6 parts, 240 bits and 300 numbers. */
  static BitNotation full() {
    BitNotation codec = new BitNotation();
    bits(codec, "10011".repeat(48));
    codec.part(0, true);
    codec.addSequence();
    for (int i = 0; i < 3; i++) {
      codec.extend(3, 0);
    }
    fillTypes(codec);
    for (int i = 0; i < 6; i++) {
      codec.part(i % 2, i % 3 == 0);
    }
    fillTale(codec);
    return codec;
  }

  static BitNotation fillTypes(BitNotation codec) {
    for (int i = codec.types(); i < 16; i++) {
      codec.addNumber(-i, i);
    }
    return codec;
  }

  static BitNotation fillTale(BitNotation codec) {
    for (int i = codec.length(); i < 300; i++) {
      codec.tell(i);
    }
    return codec;
  }

  /** Adds types of which the last has the wanted bits, always; answers its number. */
  static int typeOfBits(BitNotation codec, int wanted) {
    int ten = codec.addNumber(-500, 523);
    int eighty = codec.addList(ten, 8, 8);
    int rest = wanted - 1;
    for (; rest >= 80; rest -= 80) {
      codec.part(eighty, false);
    }
    codec.part(codec.addList(ten, rest / 10, rest / 10), false);
    codec.part(codec.addNumber(0, (1 << rest % 10) - 1), false);
    return codec.addSequence();
  }

  /** Adds types of which the last has the wanted numbers in its tale, always; answers its number. */
  static int typeOfNumbers(BitNotation codec, int wanted) {
    int one = codec.addNumber(4, 4);
    int nine = codec.addList(one, 8, 8);
    int seventyThree = codec.addList(nine, 8, 8);
    int eight = codec.addList(one, 7, 7);
    int rest = wanted - 3;
    for (; rest >= 73; rest -= 73) {
      codec.part(seventyThree, false);
    }
    int eights = Math.min(8, rest / 8);
    codec.part(codec.addList(eight, eights, eights), false);
    codec.part(codec.addList(one, rest - 8 * eights, rest - 8 * eights), false);
    return codec.addSequence();
  }

  /** Tells the one tale that a type of typeOfNumbers has, with no numbers before it. */
  static void tellNumbers(BitNotation codec, int wanted) {
    codec.forget();
    codec.tell(0);
    int rest = wanted - 3;
    for (; rest >= 73; rest -= 73) {
      tellLists(codec, 8, 8);
    }
    int eights = Math.min(8, rest / 8);
    tellLists(codec, eights, 7);
    tellList(codec, rest - 8 * eights);
  }

  private static void tellLists(BitNotation codec, int lists, int things) {
    codec.tell(lists);
    for (int i = 0; i < lists; i++) {
      tellList(codec, things);
    }
  }

  private static void tellList(BitNotation codec, int things) {
    codec.tell(things);
    for (int i = 0; i < things; i++) {
      codec.tell(4);
    }
  }

  /**
   * Makes these the bits, at most 240, by three more types: writes lists of lists of numbers of 5 bits,
   * and cuts off what is over. Spaces between the digits are passed over.
   */
  static BitNotation bits(BitNotation codec, String digits) {
    String wanted = digits.replace(" ", "");
    String row = wanted + "0".repeat(240 - wanted.length());
    int number = codec.addNumber(0, 31);
    int list = codec.addList(number, 6, 6);
    int lists = codec.addList(list, 8, 8);
    codec.forget();
    codec.tell(8);
    for (int i = 0; i < 48; i++) {
      if (i % 6 == 0) {
        codec.tell(6);
      }
      codec.tell(Integer.parseInt(row.substring(i * 5, i * 5 + 5), 2));
    }
    codec.write(lists);
    codec.cut(wanted.length());
    return codec;
  }
}
