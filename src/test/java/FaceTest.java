import java.lang.reflect.Constructor;
import java.lang.reflect.Field;
import java.lang.reflect.Member;
import java.lang.reflect.Method;
import java.lang.reflect.Modifier;
import java.util.Arrays;
import java.util.TreeSet;

/** The public face is the document's, and nothing else of the class can be seen from outside. */
public final class FaceTest {
  private static final String[] FACE = {
    "public RebuildDesk()",
    "public int RebuildDesk.write(long)",
    "public int RebuildDesk.erase()",
    "public int RebuildDesk.length()",
    "public int RebuildDesk.read() throws java.lang.IllegalArgumentException,"
        + "java.lang.IllegalStateException,java.lang.UnsupportedOperationException",
    "public int RebuildDesk.fault()",
    "public int RebuildDesk.sources(int)",
    "public int RebuildDesk.recipe(int)",
    "public boolean RebuildDesk.stamp(int,int)",
    "public int RebuildDesk.stampOf(int)",
    "public int RebuildDesk.make(int) throws java.lang.IndexOutOfBoundsException,"
        + "java.lang.IllegalStateException,java.util.NoSuchElementException,java.lang.ArithmeticException",
    "public int RebuildDesk.ran(int)",
    "public int RebuildDesk.reason(int)",
  };

  public static void main(String[] args) {
    TreeSet<String> seen = new TreeSet<>();
    for (Constructor<?> made : RebuildDesk.class.getDeclaredConstructors()) {
      addSeen(seen, made, made.toString());
    }
    for (Method method : RebuildDesk.class.getDeclaredMethods()) {
      addSeen(seen, method, method.toString());
    }
    for (Field field : RebuildDesk.class.getDeclaredFields()) {
      addSeen(seen, field, field.toString());
      if (Modifier.isStatic(field.getModifiers())) {
        Checks.due(field + " is final", Modifier.isFinal(field.getModifiers()), true);
      }
    }
    Checks.due("the face", seen, new TreeSet<>(Arrays.asList(FACE)));
    int wanted = Modifier.PUBLIC | Modifier.FINAL;
    Checks.due("the modifiers of the class", RebuildDesk.class.getModifiers(), wanted);
    Checks.end();
  }

  private static void addSeen(TreeSet<String> seen, Member member, String text) {
    if (!Modifier.isPrivate(member.getModifiers()) && !member.isSynthetic()) {
      seen.add(text);
    }
  }
}
