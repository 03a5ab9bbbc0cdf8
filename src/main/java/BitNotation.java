/**
 * A codec for messages by a notation of types. A value is told by a row of numbers, its tale; it is
 * written as a row of bits and read again. ../shared/DOC.md says what every call answers.
 */
public final class BitNotation {
  private static final int MOST_TYPES = 16;
  private static final int MOST_PARTS = 6;
  private static final int MOST_ADDITIONS = 3;
  private static final int MOST_THINGS = 8;
  private static final int FARTHEST_NUMBER = 1000;
  private static final int TALE_ROOM = 300;
  private static final int MOST_BITS = 240;
  private static final int MOST_NUMBERS = 240;
  private static final int WIDEST_NUMBER = 11;
  private static final int WIDTH_OF_ADDITIONS = 2;
  private static final int WIDTH_OF_LENGTH = 8;
  private static final int GREATEST_LENGTH = 255;
  private static final int NOWHERE = -1;

  private final TypeRow notation = new TypeRow(MOST_TYPES);
  private final Row tale = new Row(TALE_ROOM);
  private final Row message = new Row(MOST_BITS);
  private final Writer writer = new Writer();
  private final Reader reader = new Reader();
  private TypeRow draft = new TypeRow(MOST_PARTS);
  private int draftOptional = 0;

  public BitNotation() {
  }

  // ---- types

  public int addNumber(int least, int greatest)
      throws IllegalArgumentException, IllegalStateException {
    if (isOutside(least, -FARTHEST_NUMBER, FARTHEST_NUMBER)
        || isOutside(greatest, least, FARTHEST_NUMBER)) {
      throw new IllegalArgumentException("a bound is out of range");
    }
    return keep(new Type(Kind.NUMBER, least, greatest, new TypeRow(0), 0));
  }

  public int addList(int of, int least, int greatest)
      throws IndexOutOfBoundsException, IllegalArgumentException, IllegalStateException {
    Type thing = typeNumbered(of);
    if (isOutside(least, 0, MOST_THINGS) || isOutside(greatest, least, MOST_THINGS)) {
      throw new IllegalArgumentException("a size is out of range");
    }
    TypeRow things = new TypeRow(1);
    things.append(thing);
    return keep(new Type(Kind.LIST, least, greatest, things, 0));
  }

  public int part(int of, boolean optional)
      throws IndexOutOfBoundsException, IllegalStateException {
    Type type = typeNumbered(of);
    if (draft.isFull()) {
      throw new IllegalStateException("the draft has all its parts");
    }
    if (optional) {
      draftOptional |= 1 << draft.size();
    }
    draft.append(type);
    return draft.size();
  }

  public int addSequence() throws IllegalStateException {
    return keepDraft(new Type(Kind.SEQUENCE, 0, 0, draft, draftOptional));
  }

  public int addChoice() throws IllegalStateException {
    return keepDraft(new Type(Kind.CHOICE, 0, draft.size() - 1, draft, 0));
  }

  public int extend(int sequence, int of)
      throws IndexOutOfBoundsException, IllegalArgumentException, IllegalStateException {
    Type extended = typeNumbered(sequence);
    Type addition = typeNumbered(of);
    if (extended.kind != Kind.SEQUENCE || of >= sequence) {
      throw new IllegalArgumentException("no sequence, or no type from before it");
    }
    if (extended.additions.isFull()) {
      throw new IllegalStateException("the sequence has all its additions");
    }
    extended.additions.append(addition);
    if (!notation.measureAll()) {
      extended.additions.dropLast();
      notation.measureAll();
      throw new IllegalStateException("a value could be too long");
    }
    return extended.additions.size();
  }

  public int types() {
    return notation.size();
  }

  public int leastBits(int type) throws IndexOutOfBoundsException {
    return typeNumbered(type).fewestBits;
  }

  public int mostBits(int type) throws IndexOutOfBoundsException {
    return typeNumbered(type).mostBits;
  }

  // ---- tales

  public int tell(int number) throws IllegalArgumentException, IllegalStateException {
    if (isOutside(number, -FARTHEST_NUMBER, FARTHEST_NUMBER)) {
      throw new IllegalArgumentException("the number is out of range");
    }
    if (tale.isFull()) {
      throw new IllegalStateException("the tale is full");
    }
    tale.append(number);
    return tale.size();
  }

  public int forget() {
    int had = tale.size();
    tale.keepFirst(0);
    return had;
  }

  public int length() {
    return tale.size();
  }

  public int told(int index) throws IndexOutOfBoundsException {
    if (!tale.has(index)) {
      throw new IndexOutOfBoundsException("no such number");
    }
    return tale.at(index);
  }

  public int wrongAt(int type) throws IndexOutOfBoundsException {
    return writer.walk(typeNumbered(type), tale);
  }

  // ---- bits

  public int write(int type) throws IndexOutOfBoundsException, IllegalStateException {
    if (writer.walk(typeNumbered(type), tale) != NOWHERE) {
      throw new IllegalStateException("the tale is no tale of such a value");
    }
    message.becomeCopyOf(writer.written);
    return message.size();
  }

  public int bits() {
    return message.size();
  }

  public int bit(int place) throws IndexOutOfBoundsException {
    if (!message.has(place)) {
      throw new IndexOutOfBoundsException("no such bit");
    }
    return message.at(place);
  }

  public int flip(int place) throws IndexOutOfBoundsException {
    if (!message.has(place)) {
      throw new IndexOutOfBoundsException("no such bit");
    }
    message.replace(place, 1 - message.at(place));
    return message.at(place);
  }

  public int cut(int left) throws IllegalArgumentException {
    int had = message.size();
    if (isOutside(left, 0, had)) {
      throw new IllegalArgumentException("so many bits can't be left");
    }
    message.keepFirst(left);
    return had - left;
  }

  public int read(int type, int known)
      throws IndexOutOfBoundsException, IllegalArgumentException, IllegalStateException {
    if (placeOfFault(type, known) != NOWHERE) {
      throw new IllegalStateException("there is a fault in the bits");
    }
    tale.becomeCopyOf(reader.heard);
    return tale.size();
  }

  public int faultAt(int type, int known)
      throws IndexOutOfBoundsException, IllegalArgumentException {
    return placeOfFault(type, known);
  }

  // ---- what the calls share

  private static boolean isOutside(int number, int least, int greatest) {
    return number < least || number > greatest;
  }

  private Type typeNumbered(int number) {
    Type type = notation.at(number);
    if (type == null) {
      throw new IndexOutOfBoundsException("no such type");
    }
    return type;
  }

  private int keep(Type type) {
    if (notation.isFull() || !type.measure()) {
      throw new IllegalStateException("no room for the type, or its values could be too long");
    }
    notation.append(type);
    return notation.size() - 1;
  }

  private int keepDraft(Type type) {
    if (draft.size() == 0) {
      throw new IllegalStateException("the draft is empty");
    }
    int number = keep(type);
    // The new type holds the old draft from now on, so the next draft needs a row of its own.
    draft = new TypeRow(MOST_PARTS);
    draftOptional = 0;
    return number;
  }

  private int placeOfFault(int type, int additionsKnown) {
    Type expected = typeNumbered(type);
    if (isOutside(additionsKnown, 0, MOST_ADDITIONS)) {
      throw new IllegalArgumentException("so many additions can't be known");
    }
    return reader.walk(expected, message, additionsKnown);
  }

  private static int widthFor(int count) {
    int width = 0;
    while (width < WIDEST_NUMBER && (1 << width) < count) {
      width++;
    }
    return width;
  }

  private enum Kind { NUMBER, LIST, SEQUENCE, CHOICE }

  /** A row of numbers with a fixed room; what lies outside is read as 0 and never stored. */
  private static final class Row {
    private final int[] items;
    private int count = 0;

    Row(int room) {
      items = new int[Math.max(room, 0)];
    }

    int size() {
      return count;
    }

    boolean isFull() {
      return count >= items.length;
    }

    boolean has(int index) {
      return index >= 0 && index < count && index < items.length;
    }

    int at(int index) {
      return index >= 0 && index < count && index < items.length ? items[index] : 0;
    }

    void append(int item) {
      if (count >= 0 && count < items.length) {
        items[count] = item;
        count++;
      }
    }

    void replace(int index, int item) {
      if (has(index)) {
        items[index] = item;
      }
    }

    void keepFirst(int left) {
      if (left >= 0 && left < count) {
        count = left;
      }
    }

    void becomeCopyOf(Row other) {
      keepFirst(0);
      for (int i = 0; i < other.size(); i++) {
        append(other.at(i));
      }
    }
  }

  /** A row of types with a fixed room; outside of it there is null. */
  private static final class TypeRow {
    private final Type[] items;
    private int count = 0;

    TypeRow(int room) {
      items = new Type[Math.max(room, 0)];
    }

    int size() {
      return count;
    }

    boolean isFull() {
      return count >= items.length;
    }

    Type at(int index) {
      return index >= 0 && index < count && index < items.length ? items[index] : null;
    }

    void append(Type type) {
      if (count >= 0 && count < items.length) {
        items[count] = type;
        count++;
      }
    }

    void dropLast() {
      if (count > 0) {
        count--;
      }
    }

    /** Stops at the first type that is too long, so that no measure can overflow. */
    boolean measureAll() {
      for (int i = 0; i < count; i++) {
        Type type = at(i);
        if (type != null && !type.measure()) {
          return false;
        }
      }
      return true;
    }
  }

  /**
   * A type, made of earlier ones. All kinds but sequences begin, in the tale and in the bits, with a
   * number from least to greatest: the number itself, the size of a list, or the type of a choice.
   */
  private static final class Type {
    private final Kind kind;
    private final int least;
    private final int greatest;
    private final int width;
    private final TypeRow parts;
    private final int optional;
    private final TypeRow additions;
    private int fewestBits = 0;
    private int mostBits = 0;
    private int mostNumbers = 0;

    Type(Kind kind, int least, int greatest, TypeRow parts, int optional) {
      this.kind = kind;
      this.least = least;
      this.greatest = greatest;
      this.width = widthFor(greatest - least + 1);
      this.parts = parts;
      this.optional = optional;
      this.additions = new TypeRow(kind == Kind.SEQUENCE ? MOST_ADDITIONS : 0);
    }

    boolean isOptional(int index) {
      return (optional >> index & 1) == 1;
    }

    /** Takes the measures from those of the parts; answers whether they keep to the limits. */
    boolean measure() {
      fewestBits = width;
      mostBits = width;
      mostNumbers = 1;
      if (kind == Kind.LIST) {
        measureThings();
      } else if (kind == Kind.CHOICE) {
        measureChoices();
      } else if (kind == Kind.SEQUENCE) {
        measureParts();
        measureAdditions();
      }
      return mostBits <= MOST_BITS && mostNumbers <= MOST_NUMBERS;
    }

    private void measureThings() {
      Type thing = parts.at(0);
      if (thing != null) {
        fewestBits += least * thing.fewestBits;
        mostBits += greatest * thing.mostBits;
        mostNumbers += greatest * thing.mostNumbers;
      }
    }

    private void measureChoices() {
      int fewest = MOST_BITS;
      int most = 0;
      int numbers = 0;
      for (int i = 0; i < parts.size(); i++) {
        Type choice = parts.at(i);
        if (choice != null) {
          fewest = Math.min(fewest, choice.fewestBits);
          most = Math.max(most, choice.mostBits);
          numbers = Math.max(numbers, choice.mostNumbers);
        }
      }
      fewestBits += fewest;
      mostBits += most;
      mostNumbers += numbers;
    }

    private void measureParts() {
      // The bit that tells of additions is always there, and so is their number in the tale.
      fewestBits = 1;
      mostBits = 1;
      for (int i = 0; i < parts.size(); i++) {
        Type part = parts.at(i);
        if (part != null) {
          int flags = isOptional(i) ? 1 : 0;
          fewestBits += isOptional(i) ? 1 : part.fewestBits;
          mostBits += flags + part.mostBits;
          mostNumbers += flags + part.mostNumbers;
        }
      }
    }

    private void measureAdditions() {
      if (additions.size() > 0) {
        mostBits += WIDTH_OF_ADDITIONS;
      }
      for (int i = 0; i < additions.size(); i++) {
        Type addition = additions.at(i);
        if (addition != null) {
          mostBits += WIDTH_OF_LENGTH + addition.mostBits;
          mostNumbers += addition.mostNumbers;
        }
      }
    }
  }

  /** Goes along a tale as one of a value of a type, and writes the bits of the value on the way. */
  private static final class Writer {
    private final Row written = new Row(MOST_BITS);
    private int place = 0;
    private int wrong = NOWHERE;

    /** Answers where the tale is wrong; if it is nowhere, the bits are written. */
    int walk(Type type, Row tale) {
      written.keepFirst(0);
      place = 0;
      wrong = NOWHERE;
      putValue(type, tale, 0);
      if (wrong == NOWHERE && place < tale.size()) {
        wrong = place;
      }
      return wrong;
    }

    private void putValue(Type type, Row tale, int depth) {
      if (wrong != NOWHERE) {
        return;
      }
      // Types are made of earlier ones: so deep a value can't be.
      if (type == null || depth >= MOST_TYPES) {
        wrong = place;
        return;
      }
      if (type.kind == Kind.SEQUENCE) {
        putSequence(type, tale, depth);
        return;
      }
      int head = next(tale, type.least, type.greatest);
      put(head - type.least, type.width);
      if (type.kind == Kind.LIST) {
        for (int i = 0; i < head && wrong == NOWHERE; i++) {
          putValue(type.parts.at(0), tale, depth + 1);
        }
      } else if (type.kind == Kind.CHOICE) {
        putValue(type.parts.at(head), tale, depth + 1);
      }
    }

    private void putSequence(Type type, Row tale, int depth) {
      int there = nextParts(type, tale);
      int additions = next(tale, 0, type.additions.size());
      put(additions > 0 ? 1 : 0, 1);
      for (int i = 0; i < type.parts.size(); i++) {
        if (type.isOptional(i)) {
          put(there >> i & 1, 1);
        }
      }
      for (int i = 0; i < type.parts.size(); i++) {
        if ((there >> i & 1) == 1) {
          putValue(type.parts.at(i), tale, depth + 1);
        }
      }
      if (additions > 0) {
        put(additions - 1, WIDTH_OF_ADDITIONS);
      }
      for (int i = 0; i < additions; i++) {
        putAddition(type.additions.at(i), tale, depth);
      }
    }

    /** Takes from the tale which parts are there: a mask with a bit for each part. */
    private int nextParts(Type type, Row tale) {
      int there = 0;
      for (int i = 0; i < type.parts.size(); i++) {
        there |= (type.isOptional(i) ? next(tale, 0, 1) : 1) << i;
      }
      return there;
    }

    private void putAddition(Type type, Row tale, int depth) {
      int lengthPlace = written.size();
      put(0, WIDTH_OF_LENGTH);
      int start = written.size();
      putValue(type, tale, depth + 1);
      // How long the addition is shows only now: its length goes into the bits kept free for it.
      int length = written.size() - start;
      for (int i = 0; i < WIDTH_OF_LENGTH; i++) {
        written.replace(lengthPlace + i, length >> (WIDTH_OF_LENGTH - 1 - i) & 1);
      }
    }

    /** Takes the next number of the tale; once the tale is wrong, it stays where it is. */
    private int next(Row tale, int least, int greatest) {
      int number = tale.at(place);
      if (wrong == NOWHERE && (!tale.has(place) || isOutside(number, least, greatest))) {
        wrong = place;
      }
      if (wrong != NOWHERE) {
        return least;
      }
      place++;
      return number;
    }

    private void put(int number, int width) {
      for (int i = width - 1; i >= 0; i--) {
        written.append(number >> i & 1);
      }
    }
  }

  /** Goes along a row of bits as those of a value of a type, and hears its tale on the way. */
  private static final class Reader {
    private final Row heard = new Row(MOST_NUMBERS);
    private int additionsKnown = 0;
    private int place = 0;
    private int fault = NOWHERE;

    /** Answers where the fault is; if it is nowhere, the tale is heard. */
    int walk(Type type, Row bits, int known) {
      heard.keepFirst(0);
      additionsKnown = known;
      place = 0;
      fault = NOWHERE;
      getValue(type, bits, 0);
      if (fault == NOWHERE && place < bits.size()) {
        fault = place;
      }
      return fault;
    }

    private void getValue(Type type, Row bits, int depth) {
      if (fault != NOWHERE) {
        return;
      }
      // Types are made of earlier ones: so deep a value can't be.
      if (type == null || depth >= MOST_TYPES) {
        fault = place;
        return;
      }
      if (type.kind == Kind.SEQUENCE) {
        getSequence(type, bits, depth);
        return;
      }
      int head = type.least + next(bits, type.width, type.greatest - type.least);
      heard.append(head);
      if (type.kind == Kind.LIST) {
        for (int i = 0; i < head && fault == NOWHERE; i++) {
          getValue(type.parts.at(0), bits, depth + 1);
        }
      } else if (type.kind == Kind.CHOICE) {
        getValue(type.parts.at(head), bits, depth + 1);
      }
    }

    private void getSequence(Type type, Row bits, int depth) {
      boolean hasAdditions = next(bits, 1, 1) == 1;
      int there = nextParts(type, bits);
      // The tale has the number of additions ahead of the parts, the bits have it behind them.
      int countIndex = heard.size();
      heard.append(0);
      for (int i = 0; i < type.parts.size(); i++) {
        if ((there >> i & 1) == 1) {
          getValue(type.parts.at(i), bits, depth + 1);
        }
      }
      if (hasAdditions) {
        int additions = 1 + next(bits, WIDTH_OF_ADDITIONS, type.additions.size() - 1);
        heard.replace(countIndex, Math.min(additions, additionsKnown));
        getAdditions(type, additions, bits, depth);
      }
    }

    /** Takes from the bits which parts are there: a mask with a bit for each part. */
    private int nextParts(Type type, Row bits) {
      int there = 0;
      for (int i = 0; i < type.parts.size(); i++) {
        if (type.isOptional(i)) {
          int flag = next(bits, 1, 1);
          heard.append(flag);
          there |= flag << i;
        } else {
          there |= 1 << i;
        }
      }
      return there;
    }

    private void getAdditions(Type type, int additions, Row bits, int depth) {
      for (int i = 0; i < additions && fault == NOWHERE; i++) {
        int length = next(bits, WIDTH_OF_LENGTH, GREATEST_LENGTH);
        if (i < additionsKnown) {
          getAddition(type.additions.at(i), length, bits, depth);
        } else {
          skip(length, bits);
        }
      }
    }

    private void getAddition(Type type, int length, Row bits, int depth) {
      int start = place;
      getValue(type, bits, depth + 1);
      if (fault == NOWHERE && place - start != length) {
        fault = start;
      }
    }

    private void skip(int length, Row bits) {
      if (fault == NOWHERE && length > bits.size() - place) {
        fault = bits.size();
      }
      if (fault == NOWHERE) {
        place += length;
      }
    }

    /** Takes a number from 0 on out of the next bits; behind a fault, it stays where it is. */
    private int next(Row bits, int width, int greatest) {
      int number = 0;
      for (int i = 0; i < width; i++) {
        number = number << 1 | bits.at(place + i);
      }
      if (fault == NOWHERE && width > bits.size() - place) {
        fault = bits.size();
      }
      if (fault == NOWHERE && number > greatest) {
        fault = place;
      }
      if (fault != NOWHERE) {
        return 0;
      }
      place += width;
      return number;
    }
  }
}
