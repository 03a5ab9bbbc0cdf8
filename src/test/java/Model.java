import java.util.ArrayList;
import java.util.List;

/**
 * The document once more, by other means than the program's: bits are texts of digits, a tale is
 * understood and bits are heard by methods that leave by an exception at the first wrong place, and
 * the measures are worked out from the types whenever they are asked for.
 */
final class Model {
  /** Where a tale is wrong or bits have a fault. */
  static final class Wrong extends Exception {
    private static final long serialVersionUID = 1;
    final int place;

    Wrong(int place) {
      this.place = place;
    }
  }

  static final class Shape {
    final char kind;
    final int least;
    final int greatest;
    final List<Shape> parts = new ArrayList<>();
    final List<Boolean> optional = new ArrayList<>();
    final List<Shape> additions = new ArrayList<>();

    Shape(char kind, int least, int greatest) {
      this.kind = kind;
      this.least = least;
      this.greatest = greatest;
    }

    long fewest() {
      switch (kind) {
        case 'n':
          return width(greatest - least + 1);
        case 'l':
          return width(greatest - least + 1) + least * parts.get(0).fewest();
        case 'c':
          return width(parts.size()) + parts.stream().mapToLong(Shape::fewest).min().getAsLong();
        default:
          long sum = 1;
          for (int i = 0; i < parts.size(); i++) {
            sum += optional.get(i) ? 1 : parts.get(i).fewest();
          }
          return sum;
      }
    }

    long most() {
      switch (kind) {
        case 'n':
          return width(greatest - least + 1);
        case 'l':
          return width(greatest - least + 1) + greatest * parts.get(0).most();
        case 'c':
          return width(parts.size()) + parts.stream().mapToLong(Shape::most).max().getAsLong();
        default:
          long sum = 1 + flags() + (additions.isEmpty() ? 0 : 2);
          for (Shape part : parts) {
            sum += part.most();
          }
          for (Shape addition : additions) {
            sum += 8 + addition.most();
          }
          return sum;
      }
    }

    long numbers() {
      switch (kind) {
        case 'n':
          return 1;
        case 'l':
          return 1 + greatest * parts.get(0).numbers();
        case 'c':
          return 1 + parts.stream().mapToLong(Shape::numbers).max().getAsLong();
        default:
          long sum = 1 + flags();
          for (Shape part : parts) {
            sum += part.numbers();
          }
          for (Shape addition : additions) {
            sum += addition.numbers();
          }
          return sum;
      }
    }

    private long flags() {
      return optional.stream().filter(flag -> flag).count();
    }

    boolean isTooLong() {
      return most() > 240 || numbers() > 240;
    }
  }

  final List<Shape> shapes = new ArrayList<>();
  final List<Shape> draft = new ArrayList<>();
  final List<Boolean> draftFlags = new ArrayList<>();
  List<Integer> tale = new ArrayList<>();
  String bits = "";

  static int width(int count) {
    return Integer.toBinaryString(count - 1).length() - (count == 1 ? 1 : 0);
  }

  private static String binary(int number, int width) {
    StringBuilder digits = new StringBuilder();
    for (int power = (1 << width) / 2; power > 0; power /= 2) {
      digits.append(number / power % 2);
    }
    return digits.toString();
  }

  private static void argument(boolean held) {
    if (!held) {
      throw new IllegalArgumentException();
    }
  }

  private static void state(boolean held) {
    if (!held) {
      throw new IllegalStateException();
    }
  }

  private static void index(boolean held) {
    if (!held) {
      throw new IndexOutOfBoundsException();
    }
  }

  private Shape shape(int type) {
    index(type >= 0 && type < shapes.size());
    return shapes.get(type);
  }

  private int keep(Shape shape) {
    state(shapes.size() < 16 && !shape.isTooLong());
    shapes.add(shape);
    return shapes.size() - 1;
  }

  int addNumber(int least, int greatest) {
    argument(least >= -1000 && least <= 1000 && greatest >= least && greatest <= 1000);
    return keep(new Shape('n', least, greatest));
  }

  int addList(int of, int least, int greatest) {
    Shape thing = shape(of);
    argument(least >= 0 && least <= 8 && greatest >= least && greatest <= 8);
    Shape list = new Shape('l', least, greatest);
    list.parts.add(thing);
    return keep(list);
  }

  int part(int of, boolean optional) {
    Shape part = shape(of);
    state(draft.size() < 6);
    draft.add(part);
    draftFlags.add(optional);
    return draft.size();
  }

  int addDraft(char kind) {
    state(!draft.isEmpty());
    Shape shape = new Shape(kind, 0, 0);
    shape.parts.addAll(draft);
    shape.optional.addAll(draftFlags);
    int number = keep(shape);
    draft.clear();
    draftFlags.clear();
    return number;
  }

  int extend(int sequence, int of) {
    Shape extended = shape(sequence);
    Shape addition = shape(of);
    argument(extended.kind == 's' && of < sequence);
    state(extended.additions.size() < 3);
    extended.additions.add(addition);
    for (Shape shape : shapes) {
      if (shape.isTooLong()) {
        extended.additions.remove(extended.additions.size() - 1);
        throw new IllegalStateException();
      }
    }
    return extended.additions.size();
  }

  int leastBits(int type) {
    return (int) shape(type).fewest();
  }

  int mostBits(int type) {
    return (int) shape(type).most();
  }

  int tell(int number) {
    argument(number >= -1000 && number <= 1000);
    state(tale.size() < 300);
    tale.add(number);
    return tale.size();
  }

  int forget() {
    int had = tale.size();
    tale.clear();
    return had;
  }

  int told(int place) {
    index(place >= 0 && place < tale.size());
    return tale.get(place);
  }

  int wrongAt(int type) {
    try {
      bitsOfTale(shape(type));
      return -1;
    } catch (Wrong e) {
      return e.place;
    }
  }

  int write(int type) {
    Shape shape = shape(type);
    try {
      bits = bitsOfTale(shape);
    } catch (Wrong e) {
      throw new IllegalStateException();
    }
    return bits.length();
  }

  int bit(int place) {
    index(place >= 0 && place < bits.length());
    return bits.charAt(place) - '0';
  }

  int flip(int place) {
    int turned = 1 - bit(place);
    bits = bits.substring(0, place) + turned + bits.substring(place + 1);
    return turned;
  }

  int cut(int left) {
    argument(left >= 0 && left <= bits.length());
    int off = bits.length() - left;
    bits = bits.substring(0, left);
    return off;
  }

  int read(int type, int known) {
    Shape shape = shape(type);
    argument(known >= 0 && known <= 3);
    try {
      tale = taleOfBits(shape, known);
    } catch (Wrong e) {
      throw new IllegalStateException();
    }
    return tale.size();
  }

  int faultAt(int type, int known) {
    Shape shape = shape(type);
    argument(known >= 0 && known <= 3);
    try {
      taleOfBits(shape, known);
      return -1;
    } catch (Wrong e) {
      return e.place;
    }
  }

  private String bitsOfTale(Shape shape) throws Wrong {
    int[] place = {0};
    String written = say(shape, place);
    if (place[0] < tale.size()) {
      throw new Wrong(place[0]);
    }
    return written;
  }

  private int next(int[] place, int least, int greatest) throws Wrong {
    if (place[0] == tale.size() || tale.get(place[0]) < least || tale.get(place[0]) > greatest) {
      throw new Wrong(place[0]);
    }
    return tale.get(place[0]++);
  }

  private String say(Shape shape, int[] place) throws Wrong {
    if (shape.kind == 'n') {
      int number = next(place, shape.least, shape.greatest);
      return binary(number - shape.least, width(shape.greatest - shape.least + 1));
    }
    if (shape.kind == 'l') {
      int size = next(place, shape.least, shape.greatest);
      String said = binary(size - shape.least, width(shape.greatest - shape.least + 1));
      for (int i = 0; i < size; i++) {
        said += say(shape.parts.get(0), place);
      }
      return said;
    }
    if (shape.kind == 'c') {
      int chosen = next(place, 0, shape.parts.size() - 1);
      return binary(chosen, width(shape.parts.size())) + say(shape.parts.get(chosen), place);
    }
    return saySequence(shape, place);
  }

  private String saySequence(Shape shape, int[] place) throws Wrong {
    String flags = "";
    List<Shape> there = new ArrayList<>();
    for (int i = 0; i < shape.parts.size(); i++) {
      int flag = shape.optional.get(i) ? next(place, 0, 1) : 1;
      flags += shape.optional.get(i) ? "" + flag : "";
      if (flag == 1) {
        there.add(shape.parts.get(i));
      }
    }
    int count = next(place, 0, shape.additions.size());
    String said = (count > 0 ? "1" : "0") + flags;
    for (Shape part : there) {
      said += say(part, place);
    }
    if (count > 0) {
      said += binary(count - 1, 2);
    }
    for (Shape addition : shape.additions.subList(0, count)) {
      String added = say(addition, place);
      said += binary(added.length(), 8) + added;
    }
    return said;
  }

  private List<Integer> taleOfBits(Shape shape, int known) throws Wrong {
    int[] place = {0};
    List<Integer> heard = hear(shape, place, known);
    if (place[0] < bits.length()) {
      throw new Wrong(place[0]);
    }
    return heard;
  }

  private String pass(int[] place, int width) throws Wrong {
    if (place[0] + width > bits.length()) {
      throw new Wrong(bits.length());
    }
    place[0] += width;
    return bits.substring(place[0] - width, place[0]);
  }

  private int count(int[] place, int width, int greatest) throws Wrong {
    int start = place[0];
    int number = Integer.parseInt("0" + pass(place, width), 2);
    if (number > greatest) {
      throw new Wrong(start);
    }
    return number;
  }

  private List<Integer> hear(Shape shape, int[] place, int known) throws Wrong {
    if (shape.kind == 's') {
      return hearSequence(shape, place, known);
    }
    List<Integer> heard = new ArrayList<>();
    if (shape.kind == 'c') {
      int chosen = count(place, width(shape.parts.size()), shape.parts.size() - 1);
      heard.add(chosen);
      heard.addAll(hear(shape.parts.get(chosen), place, known));
      return heard;
    }
    int above = shape.greatest - shape.least;
    int head = shape.least + count(place, width(above + 1), above);
    heard.add(head);
    for (int i = 0; shape.kind == 'l' && i < head; i++) {
      heard.addAll(hear(shape.parts.get(0), place, known));
    }
    return heard;
  }

  private List<Integer> hearSequence(Shape shape, int[] place, int known) throws Wrong {
    List<Integer> flags = new ArrayList<>();
    List<Integer> values = new ArrayList<>();
    List<Shape> there = new ArrayList<>();
    boolean more = pass(place, 1).equals("1");
    for (int i = 0; i < shape.parts.size(); i++) {
      if (shape.optional.get(i)) {
        flags.add(count(place, 1, 1));
      }
      if (!shape.optional.get(i) || flags.get(flags.size() - 1) == 1) {
        there.add(shape.parts.get(i));
      }
    }
    for (Shape part : there) {
      values.addAll(hear(part, place, known));
    }
    int added = more ? count(place, 2, shape.additions.size() - 1) + 1 : 0;
    for (int i = 0; i < added; i++) {
      int length = count(place, 8, 255);
      int start = place[0];
      if (i >= known) {
        pass(place, length);
      } else {
        values.addAll(hear(shape.additions.get(i), place, known));
        if (place[0] != start + length) {
          throw new Wrong(start);
        }
      }
    }
    flags.add(Math.min(added, known));
    flags.addAll(values);
    return flags;
  }
}
