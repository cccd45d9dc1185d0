import java.lang.reflect.Constructor;
import java.lang.reflect.Field;
import java.lang.reflect.Method;
import java.lang.reflect.Modifier;
import java.util.Set;
import java.util.TreeSet;

// The class shows the document's face and no other member.
public final class FaceTest {
  private static final Set<String> FACE = Set.of(
      "int move(int,int,int,int,boolean)",
      "int state(int,boolean,boolean)",
      "int read(int)",
      "int back()",
      "void erase()",
      "int live()",
      "int accepted()",
      "int open()",
      "int next()",
      "int close()");
  private static int wrong = 0;

  private static void must(String what, boolean holds) {
    if (!holds) {
      wrong++;
      System.out.println("does not hold: " + what);
    }
  }

  public static void main(String[] args) {
    Class<?> type = NestedWords.class;
    must("public final class",
        Modifier.isPublic(type.getModifiers()) && Modifier.isFinal(type.getModifiers()));
    must("no nested class", type.getDeclaredClasses().length == 0);
    must("methods of the document, and they alone", shownMethods(type).equals(FACE));
    checkConstructor(type);
    checkFields(type);
    checkPrivateMethods(type);
    System.out.println(wrong == 0 ? "the face is as due" : wrong + " faults in the face");
    if (wrong != 0) {
      System.exit(1);
    }
  }

  private static Set<String> shownMethods(Class<?> type) {
    Set<String> shown = new TreeSet<>();
    for (Method method : type.getDeclaredMethods()) {
      if (!Modifier.isPrivate(method.getModifiers())) {
        must("not static: " + method, method.getModifiers() == Modifier.PUBLIC);
        StringBuilder text = new StringBuilder();
        for (Class<?> parameter : method.getParameterTypes()) {
          text.append(text.length() == 0 ? "" : ",").append(parameter.getName());
        }
        shown.add(method.getReturnType().getName() + " " + method.getName() + "(" + text + ")");
      }
    }
    return shown;
  }

  private static void checkConstructor(Class<?> type) {
    Constructor<?>[] all = type.getDeclaredConstructors();
    must("one constructor", all.length == 1);
    must("public and without parameters",
        all[0].getModifiers() == Modifier.PUBLIC && all[0].getParameterCount() == 0);
  }

  private static void checkFields(Class<?> type) {
    for (Field field : type.getDeclaredFields()) {
      int how = field.getModifiers();
      must("private: " + field, Modifier.isPrivate(how));
      must("constant: " + field, !Modifier.isStatic(how) || Modifier.isFinal(how)
          && (field.getType() == int.class || field.getType() == long.class));
    }
  }

  private static void checkPrivateMethods(Class<?> type) {
    for (Method method : type.getDeclaredMethods()) {
      if (Modifier.isPrivate(method.getModifiers())) {
        for (String shown : FACE) {
          must("no second " + shown, !shown.contains(" " + method.getName() + "("));
        }
        must("at most seven parameters: " + method, method.getParameterCount() <= 7);
      }
    }
  }
}
