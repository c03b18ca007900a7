import java.lang.reflect.InvocationTargetException;
import java.lang.reflect.Method;
import java.lang.reflect.Modifier;
import java.util.ArrayList;
import java.util.List;
import java.util.Map;
import java.util.TreeMap;

/** Calls of the public face by name, so that runs of calls can be written down as text. */
final class Calls {
  private static final Map<String, Method> FACE = face(PostsEnd.class);
  private static final Map<String, Method> MODEL = face(Model.class);

  private Calls() {
  }

  static Map<String, Method> face(Class<?> type) {
    Map<String, Method> face = new TreeMap<>();
    for (Method method : type.getDeclaredMethods()) {
      if (Modifier.isPublic(method.getModifiers())) {
        face.put(method.getName(), method);
      }
    }
    return face;
  }

  static List<String> names() {
    return new ArrayList<>(FACE.keySet());
  }

  static int parametersOf(String name) {
    return FACE.get(name).getParameterCount();
  }

  /** Asks the program or the model. */
  static int ask(Object object, String name, int... arguments) {
    Method method = (object instanceof Model ? MODEL : FACE).get(name);
    if (method == null || method.getParameterCount() != arguments.length) {
      throw new IllegalArgumentException("no such call: " + text(name, arguments));
    }
    Object[] boxed = new Object[arguments.length];
    for (int i = 0; i < arguments.length; i++) {
      boxed[i] = arguments[i];
    }
    try {
      return (Integer) method.invoke(object, boxed);
    } catch (IllegalAccessException e) {
      throw new IllegalStateException(e);
    } catch (InvocationTargetException e) {
      throw new IllegalStateException(text(name, arguments) + " threw", e.getCause());
    }
  }

  static String text(String name, int... arguments) {
    StringBuilder text = new StringBuilder(name).append('(');
    for (int i = 0; i < arguments.length; i++) {
      text.append(i == 0 ? "" : ", ").append(arguments[i]);
    }
    return text.append(')').toString();
  }
}
