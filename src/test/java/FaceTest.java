import java.lang.reflect.Constructor;
import java.lang.reflect.Field;
import java.lang.reflect.Method;
import java.lang.reflect.Modifier;
import java.util.Set;
import java.util.TreeSet;

/** The public face: the members of the document, and no other that is not private. */
public final class FaceTest {
  public static void main(String[] args) {
    Class<?> face = ConnectFour.class;
    Due.holds("the class is public", Modifier.isPublic(face.getModifiers()));
    Due.holds("the class is final", Modifier.isFinal(face.getModifiers()));
    Due.holds("the class extends Object alone", face.getSuperclass() == Object.class);
    Due.is("interfaces", face.getInterfaces().length, 0);
    Due.is("nested classes", face.getDeclaredClasses().length, 0);
    constructors(face);
    methods(face);
    fields(face);
    Due.end();
  }

  private static void constructors(Class<?> face) {
    Constructor<?>[] all = face.getDeclaredConstructors();
    Due.is("constructors", all.length, 1);
    Due.is("parameters of the constructor", all[0].getParameterCount(), 0);
    Due.holds("the constructor is public", Modifier.isPublic(all[0].getModifiers()));
  }

  private static void methods(Class<?> face) {
    Set<String> due = Set.of(
        "public int ConnectFour.drop(int)",
        "public int ConnectFour.height(int)",
        "public long ConnectFour.key()",
        "public int ConnectFour.moves()");
    Set<String> open = new TreeSet<>();
    Set<String> openNames = new TreeSet<>();
    for (Method method : face.getDeclaredMethods()) {
      if (!Modifier.isPrivate(method.getModifiers())) {
        open.add(method.toString());
        openNames.add(method.getName());
      }
    }
    Due.holds("the methods that are not private are the document's: " + open, open.equals(due));
    for (Method method : face.getDeclaredMethods()) {
      boolean hidden = Modifier.isPrivate(method.getModifiers());
      Due.holds(method + " bears no public name", !hidden || !openNames.contains(method.getName()));
    }
  }

  private static void fields(Class<?> face) {
    for (Field field : face.getDeclaredFields()) {
      int modifiers = field.getModifiers();
      Due.holds(field + " is private", Modifier.isPrivate(modifiers));
      boolean number = field.getType() == int.class || field.getType() == long.class;
      boolean constant = Modifier.isFinal(modifiers) && number;
      Due.holds(field + " is no static but a constant", !Modifier.isStatic(modifiers) || constant);
    }
  }
}
