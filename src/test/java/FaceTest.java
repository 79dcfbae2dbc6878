import java.lang.reflect.Constructor;
import java.lang.reflect.Field;
import java.lang.reflect.Method;
import java.lang.reflect.Modifier;
import java.util.Arrays;
import java.util.Set;
import java.util.TreeSet;

/** The document's public face, and nothing beside it. */
public final class FaceTest {
  private static final String BAD = " IllegalArgumentException";
  private static final String STATE = " IllegalStateException";
  private static final String[] FACE = {
    "int plain(int, int, int)" + BAD,
    "int row(int, int, boolean)" + BAD,
    "int queue(int)" + BAD,
    "int loose(int, int, int, int)" + BAD + STATE,
    "int pair(int, int, int, int)" + BAD + STATE,
    "int copy(int, int)" + BAD,
    "int link(int, int, int)" + BAD + STATE,
    "int fetch(int, int, int)" + BAD + STATE,
    "long set(int, int, long)" + BAD + STATE,
    "long get(int, int)" + BAD + STATE,
    "int referent(int, int, boolean)" + BAD + STATE,
    "int give(int, int)" + BAD + STATE,
    "int clear(int, boolean)" + BAD + STATE,
    "int poll(int, int)" + BAD + STATE,
    "int waiting(int)" + BAD + STATE,
    "int kind(int)" + BAD,
    "int hash(int)" + BAD,
    "boolean same(int, int)" + BAD,
    "int open(int)" + BAD + STATE,
    "int close()" + STATE,
    "int collect(boolean)",
    "int every(int)" + BAD,
    "int count(int)" + BAD,
    "long digest(int)" + BAD
  };

  public static void main(String[] args) {
    Class<RefHeap> face = RefHeap.class;
    Due.text("the class", Modifier.toString(face.getModifiers()), "public final");
    constructors(face);
    methods(face);
    for (Field field : face.getDeclaredFields()) {
      Due.holds("private: " + field, Modifier.isPrivate(field.getModifiers()));
      Due.holds(
          "final if static: " + field,
          !Modifier.isStatic(field.getModifiers()) || Modifier.isFinal(field.getModifiers()));
    }
    for (Class<?> inside : face.getDeclaredClasses()) {
      Due.holds("private: " + inside, Modifier.isPrivate(inside.getModifiers()));
      Due.holds("static: " + inside, Modifier.isStatic(inside.getModifiers()));
    }
    Due.finish();
  }

  private static void constructors(Class<?> face) {
    Constructor<?>[] all = face.getDeclaredConstructors();
    Due.equal("how many constructors", all.length, 1);
    Due.text("the constructor", all[0].toString(), "public RefHeap(int,int)");
  }

  private static void methods(Class<?> face) {
    Set<String> shown = new TreeSet<>();
    Set<String> names = new TreeSet<>();
    for (Method method : face.getDeclaredMethods()) {
      if (!Modifier.isPrivate(method.getModifiers())) {
        Due.text(method.getName(), Modifier.toString(method.getModifiers()), "public");
        shown.add(signature(method));
        names.add(method.getName());
      }
    }
    Due.text("the methods", shown.toString(), new TreeSet<>(Arrays.asList(FACE)).toString());
    for (Method method : face.getDeclaredMethods()) {
      Due.holds(
          "a name of its own: " + method,
          !Modifier.isPrivate(method.getModifiers()) || !names.contains(method.getName()));
    }
  }

  private static String signature(Method method) {
    StringBuilder text = new StringBuilder();
    text.append(method.getReturnType().getSimpleName()).append(' ').append(method.getName());
    String types = Arrays.toString(
        Arrays.stream(method.getParameterTypes()).map(Class::getSimpleName).toArray());
    text.append('(').append(types, 1, types.length() - 1).append(')');
    for (Class<?> thrown : method.getExceptionTypes()) {
      text.append(' ').append(thrown.getSimpleName());
    }
    return text.toString();
  }
}
