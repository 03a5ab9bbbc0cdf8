import java.lang.reflect.Constructor;
import java.lang.reflect.Field;
import java.lang.reflect.Member;
import java.lang.reflect.Method;
import java.lang.reflect.Modifier;
import java.util.ArrayList;
import java.util.Arrays;
import java.util.List;
import java.util.TreeSet;

/** The face of the class is that of the document, with nothing beside it. */
public final class FaceTest {
  private static final String ARGUMENT = "IllegalArgumentException";
  private static final String STATE = "IllegalStateException";
  private static final String INDEX = "IndexOutOfBoundsException";
  private static final String[] FACE = {
    "addNumber(int,int) " + ARGUMENT + " " + STATE,
    "addList(int,int,int) " + INDEX + " " + ARGUMENT + " " + STATE,
    "part(int,boolean) " + INDEX + " " + STATE,
    "addSequence() " + STATE,
    "addChoice() " + STATE,
    "extend(int,int) " + INDEX + " " + ARGUMENT + " " + STATE,
    "types()",
    "leastBits(int) " + INDEX,
    "mostBits(int) " + INDEX,
    "tell(int) " + ARGUMENT + " " + STATE,
    "forget()",
    "length()",
    "told(int) " + INDEX,
    "wrongAt(int) " + INDEX,
    "write(int) " + INDEX + " " + STATE,
    "bits()",
    "bit(int) " + INDEX,
    "flip(int) " + INDEX,
    "cut(int) " + ARGUMENT,
    "read(int,int) " + INDEX + " " + ARGUMENT + " " + STATE,
    "faultAt(int,int) " + INDEX + " " + ARGUMENT,
  };

  public static void main(String[] args) {
    Class<?> codec = BitNotation.class;
    Due.holds("the class is not public and final",
        Modifier.isPublic(codec.getModifiers()) && Modifier.isFinal(codec.getModifiers()));
    publicMethods(codec);
    List<Member> hidden = new ArrayList<>();
    hidden.addAll(Arrays.asList(codec.getDeclaredFields()));
    for (Method method : codec.getDeclaredMethods()) {
      if (!Modifier.isPublic(method.getModifiers())) {
        hidden.add(method);
      }
    }
    for (Member member : hidden) {
      Due.holds(member.getName() + " is not private", Modifier.isPrivate(member.getModifiers()));
    }
    Constructor<?>[] constructors = codec.getDeclaredConstructors();
    Due.holds("there is more than a public constructor without arguments", constructors.length == 1
        && constructors[0].getParameterCount() == 0
        && Modifier.isPublic(constructors[0].getModifiers()));
    staticState(codec);
    namesOfTheFace(codec);
    Due.finish();
  }

  private static void publicMethods(Class<?> codec) {
    TreeSet<String> got = new TreeSet<>();
    for (Method method : codec.getDeclaredMethods()) {
      if (Modifier.isPublic(method.getModifiers())) {
        got.add(described(method));
        Due.holds(method.getName() + " is static or answers no int",
            method.getReturnType() == int.class && !Modifier.isStatic(method.getModifiers()));
      }
    }
    TreeSet<String> due = new TreeSet<>(Arrays.asList(FACE));
    Due.holds("the public methods are " + got + ", due are " + due, got.equals(due));
  }

  private static String described(Method method) {
    List<String> arguments = new ArrayList<>();
    for (Class<?> type : method.getParameterTypes()) {
      arguments.add(type.getSimpleName());
    }
    StringBuilder text = new StringBuilder(method.getName());
    text.append('(').append(String.join(",", arguments)).append(')');
    for (Class<?> thrown : method.getExceptionTypes()) {
      text.append(' ').append(thrown.getSimpleName());
    }
    return text.toString();
  }

  private static void staticState(Class<?> codec) {
    for (Field field : codec.getDeclaredFields()) {
      int modifiers = field.getModifiers();
      Due.holds(field.getName() + " is static and may change",
          !Modifier.isStatic(modifiers) || Modifier.isFinal(modifiers));
    }
  }

  /** No hidden method, of the class or of those inside it, bears a name of the face. */
  private static void namesOfTheFace(Class<?> codec) {
    TreeSet<String> names = new TreeSet<>();
    for (String line : FACE) {
      names.add(line.substring(0, line.indexOf('(')));
    }
    List<Class<?>> classes = new ArrayList<>(Arrays.asList(codec.getDeclaredClasses()));
    classes.add(codec);
    for (Class<?> each : classes) {
      for (Method method : each.getDeclaredMethods()) {
        boolean ofFace = each == codec && Modifier.isPublic(method.getModifiers());
        Due.holds(each.getName() + "." + method.getName() + " bears a name of the face",
            ofFace || !names.contains(method.getName()));
      }
    }
  }
}
