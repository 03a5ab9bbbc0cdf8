import java.util.ArrayList;
import java.util.List;

/**
 * All promises together: runs of 512 calls, drawn by a rule that always draws the same, are made of
 * the program and of the model, and each answer or exception must be the same.
 */
public final class ModelTest {
  private static final int RUNS = 6000;
  private static final int CALLS = 512;

  private final int run;
  private final BitNotation codec = new BitNotation();
  private final Model model = new Model();
  private long drawn;
  private int calls = 0;
  private int reads = 0;
  private int faults = 0;

  private ModelTest(int run) {
    this.run = run;
    this.drawn = run * 7919L + 17;
  }

  public static void main(String[] args) {
    int reads = 0;
    int faults = 0;
    for (int run = 0; run < RUNS; run++) {
      ModelTest test = new ModelTest(run);
      test.make();
      reads += test.reads;
      faults += test.faults;
    }
    System.out.println(reads + " values read, " + faults + " faults found");
    Due.holds("too few values are read for a test", reads > RUNS * 10);
    Due.holds("too few faults are found for a test", faults > RUNS * 10);
    Due.finish();
  }

  private int draw(int bound) {
    drawn = drawn * 6364136223846793005L + 1442695040888963407L;
    return (int) ((drawn >>> 33) % bound);
  }

  private boolean rarely() {
    return draw(25) == 0;
  }

  private void make() {
    int firstTypes = 2 + draw(18);
    for (int i = 0; i < firstTypes; i++) {
      addSomething();
    }
    while (calls < CALLS - 40) {
      int what = draw(10);
      if (what == 0) {
        addSomething();
      } else if (what == 1) {
        odds();
      } else if (what < 7) {
        passValue();
      } else {
        passNumbers();
      }
    }
  }

  /** Makes one call of both; the answers must be the same. */
  private int both(String call, Due.Call ofProgram, Due.Call ofModel) {
    if (calls >= CALLS) {
      return 0;
    }
    calls++;
    int due;
    try {
      due = ofModel.answer();
    } catch (RuntimeException e) {
      Due.refuses("run " + run + ", call " + calls + ": " + call, e.getClass(), ofProgram);
      return Integer.MIN_VALUE;
    }
    Due.answers("run " + run + ", call " + calls + ": " + call, due, ofProgram);
    return due;
  }

  private int anyType() {
    int types = model.shapes.size();
    if (rarely() || types == 0) {
      return new int[] {-1, types, 16, Integer.MAX_VALUE, Integer.MIN_VALUE}[draw(5)];
    }
    return draw(3) == 0 ? types - 1 : draw(types);
  }

  private int anyKnown() {
    return rarely() ? new int[] {-1, 4, Integer.MAX_VALUE, Integer.MIN_VALUE}[draw(4)] : draw(4);
  }

  private void addSomething() {
    int what = draw(8);
    if (what < 2 || model.shapes.isEmpty()) {
      addNumber();
    } else if (what < 4) {
      addList();
    } else if (what < 7) {
      addDraft(what < 6);
    } else {
      int sequence = anyType();
      int of = sequence > 0 && !rarely() ? draw(Math.min(sequence, 16)) : anyType();
      both("extend(" + sequence + ", " + of + ")", () -> codec.extend(sequence, of),
          () -> model.extend(sequence, of));
    }
    int type = anyType();
    both("leastBits(" + type + ")", () -> codec.leastBits(type), () -> model.leastBits(type));
    both("mostBits(" + type + ")", () -> codec.mostBits(type), () -> model.mostBits(type));
    both("types()", codec::types, () -> model.shapes.size());
  }

  private void addNumber() {
    int[] spans = {0, 1, 2, 3, 4, 6, 7, 8, 30, 127, 2000};
    int least = rarely() ? -1001 : draw(12) == 0 ? -1000 : draw(21) - 10;
    int greatest = rarely() ? least - 1 : least + spans[draw(spans.length)];
    both("addNumber(" + least + ", " + greatest + ")", () -> codec.addNumber(least, greatest),
        () -> model.addNumber(least, greatest));
  }

  private void addList() {
    int of = anyType();
    int least = rarely() ? -1 : draw(4);
    int greatest = rarely() ? draw(11) : least + draw(4);
    both("addList(" + of + ", " + least + ", " + greatest + ")",
        () -> codec.addList(of, least, greatest), () -> model.addList(of, least, greatest));
  }

  private void addDraft(boolean asSequence) {
    int parts = rarely() ? 7 : 1 + draw(4);
    for (int i = 0; i < parts; i++) {
      int of = anyType();
      boolean optional = draw(2) == 0;
      both("part(" + of + ", " + optional + ")", () -> codec.part(of, optional),
          () -> model.part(of, optional));
    }
    if (asSequence) {
      both("addSequence()", codec::addSequence, () -> model.addDraft('s'));
      for (int i = draw(4); i > 0; i--) {
        int sequence = model.shapes.size() - 1;
        int of = anyType();
        both("extend(" + sequence + ", " + of + ")", () -> codec.extend(sequence, of),
            () -> model.extend(sequence, of));
      }
    } else {
      both("addChoice()", codec::addChoice, () -> model.addDraft('c'));
    }
  }

  /** The arguments that nobody gives. */
  private void odds() {
    int far = new int[] {-1, 240, 300, 1001, Integer.MAX_VALUE, Integer.MIN_VALUE}[draw(6)];
    both("tell(" + far + ")", () -> codec.tell(far), () -> model.tell(far));
    both("told(" + far + ")", () -> codec.told(far), () -> model.told(far));
    both("bit(" + far + ")", () -> codec.bit(far), () -> model.bit(far));
    both("flip(" + far + ")", () -> codec.flip(far), () -> model.flip(far));
    both("cut(" + far + ")", () -> codec.cut(far), () -> model.cut(far));
  }

  /** Tells a value that the type has, or nearly so, writes it, spoils it perhaps, and reads it. */
  private void passValue() {
    int type = anyType();
    List<Integer> value = new ArrayList<>();
    if (type >= 0 && type < model.shapes.size()) {
      drawValue(model.shapes.get(type), value);
    }
    if (draw(5) == 0 && !value.isEmpty()) {
      int place = draw(value.size());
      value.set(place, value.get(place) + draw(5) - 2);
    }
    if (value.size() > 60) {
      return;
    }
    both("forget()", codec::forget, model::forget);
    for (int number : value) {
      both("tell(" + number + ")", () -> codec.tell(number), () -> model.tell(number));
    }
    both("wrongAt(" + type + ")", () -> codec.wrongAt(type), () -> model.wrongAt(type));
    both("write(" + type + ")", () -> codec.write(type), () -> model.write(type));
    both("bits()", codec::bits, () -> model.bits.length());
    spoil();
    hear(type);
    hear(draw(3) == 0 ? anyType() : type);
    compareAll();
  }

  private void drawValue(Model.Shape shape, List<Integer> value) {
    if (shape.kind == 'c') {
      int chosen = draw(shape.parts.size());
      value.add(chosen);
      drawValue(shape.parts.get(chosen), value);
    } else if (shape.kind == 's') {
      drawSequence(shape, value);
    } else {
      int head = shape.least + draw(shape.greatest - shape.least + 1);
      value.add(head);
      for (int i = 0; shape.kind == 'l' && i < head; i++) {
        drawValue(shape.parts.get(0), value);
      }
    }
  }

  private void drawSequence(Model.Shape shape, List<Integer> value) {
    List<Model.Shape> there = new ArrayList<>();
    for (int i = 0; i < shape.parts.size(); i++) {
      int flag = draw(2);
      if (shape.optional.get(i)) {
        value.add(flag);
      }
      if (flag == 1 || !shape.optional.get(i)) {
        there.add(shape.parts.get(i));
      }
    }
    int additions = draw(shape.additions.size() + 1);
    value.add(additions);
    there.addAll(shape.additions.subList(0, additions));
    for (Model.Shape part : there) {
      drawValue(part, value);
    }
  }

  private void spoil() {
    int size = model.bits.length();
    for (int i = draw(4); i > 0 && size > 0; i--) {
      int place = draw(size);
      both("flip(" + place + ")", () -> codec.flip(place), () -> model.flip(place));
      both("bit(" + place + ")", () -> codec.bit(place), () -> model.bit(place));
    }
    if (draw(6) == 0) {
      int left = draw(size + 2);
      both("cut(" + left + ")", () -> codec.cut(left), () -> model.cut(left));
    }
  }

  private void hear(int type) {
    int known = anyKnown();
    int fault = both("faultAt(" + type + ", " + known + ")", () -> codec.faultAt(type, known),
        () -> model.faultAt(type, known));
    int heard = both("read(" + type + ", " + known + ")", () -> codec.read(type, known),
        () -> model.read(type, known));
    faults += fault >= 0 ? 1 : 0;
    reads += heard >= 0 ? 1 : 0;
  }

  /** Numbers of no type in particular. */
  private void passNumbers() {
    for (int i = draw(6); i > 0; i--) {
      int number = draw(4) == 0 ? draw(2003) - 1001 : draw(4);
      both("tell(" + number + ")", () -> codec.tell(number), () -> model.tell(number));
    }
    int type = anyType();
    both("wrongAt(" + type + ")", () -> codec.wrongAt(type), () -> model.wrongAt(type));
    if (draw(3) == 0) {
      both("write(" + type + ")", () -> codec.write(type), () -> model.write(type));
    }
    hear(type);
    if (draw(3) == 0) {
      both("forget()", codec::forget, model::forget);
    }
    both("length()", codec::length, () -> model.tale.size());
    compareAll();
  }

  /** Looks at the whole of tale and bits, as long as calls are left for it. */
  private void compareAll() {
    int looks = 2 + model.tale.size() + model.bits.length();
    if (draw(4) != 0 || calls + looks > CALLS) {
      return;
    }
    calls += looks;
    String when = "run " + run + ", call " + calls;
    Due.tale(when, codec, model.tale.stream().mapToInt(Integer::intValue).toArray());
    Due.bits(when, codec, model.bits);
  }
}
