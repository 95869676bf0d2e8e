import java.lang.reflect.Constructor;
import java.lang.reflect.Field;
import java.lang.reflect.Method;
import java.lang.reflect.Modifier;
import java.util.Map;
import java.util.TreeMap;

/** The public face: the document's constants, constructor and methods, and no other member. */
public final class FaceTest {
  private static int wrong = 0;

  private static void expect(boolean holds, String what) {
    if (!holds) {
      wrong++;
      System.out.println(what);
    }
  }

  public static void main(String[] args) {
    Map<String, Integer> due = new TreeMap<>(Map.of(
        "type", 0, "maker", 5, "number", 1, "make", 5, "any", 2,
        "also", 2, "exactly", 1, "made", 5, "either", 2, "match", 4));
    due.putAll(Map.of(
        "row", 6, "run", 4, "took", 1, "tree", 2, "missing", 1,
        "part", 1, "plain", 1, "count", 1, "check", 0));
    Class<?> face = MatchForge.class;
    expect(Modifier.isFinal(face.getModifiers()) && Modifier.isPublic(face.getModifiers()),
        "the class is not public and final");
    Map<String, Integer> found = new TreeMap<>();
    for (Method m : face.getDeclaredMethods()) {
      if (Modifier.isPublic(m.getModifiers())) {
        expect(found.put(m.getName(), m.getParameterCount()) == null, "twice: " + m);
        expect(m.getReturnType() == int.class, "no int: " + m);
        expect(!Modifier.isStatic(m.getModifiers()), "static: " + m);
        for (Class<?> given : m.getParameterTypes()) expect(given == int.class, "no int: " + m);
      } else {
        expect(Modifier.isPrivate(m.getModifiers()), "not private: " + m);
        expect(!due.containsKey(m.getName()), "a private method with a public name: " + m);
      }
    }
    expect(found.equals(due), "the methods are " + found + ", due are " + due);
    for (Field f : face.getDeclaredFields()) {
      boolean constant = f.getName().equals("NONE") || f.getName().equals("FULL");
      expect(Modifier.isPublic(f.getModifiers()) == constant, "public or not: " + f);
      expect(constant || Modifier.isPrivate(f.getModifiers()), "not private: " + f);
      expect(!Modifier.isStatic(f.getModifiers()) || Modifier.isFinal(f.getModifiers()),
          "static and not final: " + f);
    }
    Constructor<?>[] constructors = face.getDeclaredConstructors();
    expect(constructors.length == 1 && Modifier.isPublic(constructors[0].getModifiers())
        && constructors[0].getParameterCount() == 0, "the constructor");
    for (Class<?> inner : face.getDeclaredClasses()) {
      expect(Modifier.isStatic(inner.getModifiers()), "not static: " + inner);
      expect(!Modifier.isPublic(inner.getModifiers()) && !Modifier.isProtected(inner.getModifiers()),
          "public or protected: " + inner);
    }
    expect(MatchForge.NONE == -1, "NONE is " + MatchForge.NONE);
    expect(MatchForge.FULL == -2, "FULL is " + MatchForge.FULL);
    System.out.println(wrong == 0 ? "all as due" : wrong + " wrong");
    if (wrong != 0) System.exit(1);
  }
}
