import java.lang.reflect.InvocationTargetException;
import java.lang.reflect.Method;
import java.lang.reflect.Modifier;
import java.util.HashMap;
import java.util.Map;
import java.util.NoSuchElementException;

/** A new object that is asked by written calls, never more often than the document allows. */
final class Asked {
  private static final int MOST_CALLS = 512;
  private static final Map<String, Method> FACE = face();

  private final MintHouse house = new MintHouse();
  private int calls = 0;

  private static Map<String, Method> face() {
    Map<String, Method> face = new HashMap<>();
    for (Method method : MintHouse.class.getDeclaredMethods()) {
      if (Modifier.isPublic(method.getModifiers())) {
        face.put(method.getName(), method);
      }
    }
    return face;
  }

  /** The answer as a text: a number, true, false, done (of a call without one), NoSuch or Illegal. */
  String ask(String call) {
    int open = call.indexOf('(');
    if (open < 0 || !call.endsWith(")") || !FACE.containsKey(call.substring(0, open))) {
      throw new AssertionError("no call of the face: " + call);
    }
    calls++;
    if (calls > MOST_CALLS) {
      throw new AssertionError("later calls are free: " + call);
    }
    Method method = FACE.get(call.substring(0, open));
    String inside = call.substring(open + 1, call.length() - 1);
    return answer(method, arguments(method, inside.isEmpty() ? new String[0] : inside.split(", ")));
  }

  private static Object[] arguments(Method method, String[] written) {
    if (written.length != method.getParameterCount()) {
      throw new AssertionError(method.getName() + " takes " + method.getParameterCount() + " arguments");
    }
    Object[] arguments = new Object[written.length];
    for (int i = 0; i < written.length; i++) {
      boolean wide = method.getParameterTypes()[i] == long.class;
      long number = number(written[i], wide);
      arguments[i] = wide ? (Object) number : (Object) Math.toIntExact(number);
    }
    return arguments;
  }

  private static long number(String written, boolean wide) {
    if (written.equals("MIN")) {
      return wide ? Long.MIN_VALUE : Integer.MIN_VALUE;
    }
    if (written.equals("MAX")) {
      return wide ? Long.MAX_VALUE : Integer.MAX_VALUE;
    }
    return written.equals("NONE") ? -1 : Long.parseLong(written.replace("_", ""));
  }

  private String answer(Method method, Object[] arguments) {
    try {
      Object answer = method.invoke(house, arguments);
      return answer == null ? "done" : answer.toString();
    } catch (IllegalAccessException e) {
      throw new AssertionError(e);
    } catch (InvocationTargetException e) {
      return thrown(e.getCause().getClass());
    }
  }

  // The very classes: one below them is not what the document says.
  private static String thrown(Class<?> thrown) {
    if (thrown == NoSuchElementException.class) {
      return "NoSuch";
    }
    return thrown == IllegalArgumentException.class ? "Illegal" : "throws " + thrown.getName();
  }

  private int askNumber(String call) {
    return Integer.parseInt(ask(call));
  }

  String mint(int mint) {
    StringBuilder text = new StringBuilder();
    int count = askNumber("at(" + mint + ", -1)");
    for (int i = 0; i < count; i++) {
      text.append(' ').append(ask("at(" + mint + ", " + i + ")"));
    }
    return text.toString();
  }

  /** Each value behind how many there are of it. */
  String purse(int purse) {
    StringBuilder text = new StringBuilder();
    int count = askNumber("has(" + purse + ", -1)");
    for (int i = 0; i < count; i++) {
      text.append(' ').append(ask("has(" + purse + ", " + i + ")"));
      text.append('*').append(ask("has(" + purse + ", " + (-3 - i) + ")"));
    }
    return text.toString();
  }

  String hand() {
    if (ask("rank()").equals("NoSuch")) {
      return "nothing";
    }
    StringBuilder text = new StringBuilder();
    String often = ask("hand(0)");
    for (int i = 1; !often.equals("NoSuch"); i++) {
      text.append(' ').append(often);
      often = ask("hand(" + i + ")");
    }
    return text.toString();
  }

  /** All that a call may change. */
  String all() {
    StringBuilder text = new StringBuilder();
    for (int place = 0; place < 8; place++) {
      text.append("mint").append(mint(place)).append(", purse").append(purse(place)).append("; ");
    }
    return text.append("hand ").append(hand()).append("; cases ").append(ask("cases()")).toString();
  }
}
