import java.lang.reflect.InvocationTargetException;
import java.lang.reflect.Method;
import java.lang.reflect.Modifier;
import java.util.ArrayList;
import java.util.Arrays;
import java.util.List;
import java.util.Random;
import java.util.Set;

/**
 * Runs of 512 calls of the whole face with ordinary and wild arguments, by a fixed seed: which calls
 * begin a state, what undo and redo bring back, that all others leave all as it was, and that
 * nothing is thrown but what the face declares.
 */
public final class StateTest {
  private static final Set<String> BEGINNING =
      Set.of("coin", "melt", "join", "part", "factor", "best", "open", "fill", "deal");
  private static final Set<String> HANDED = Set.of("of", "put");
  private static final int[] WILD = {Integer.MIN_VALUE, Integer.MIN_VALUE + 1, -301, -15, -4, -3, -2, -1, 0, 1, 2, 3, 6,
    7, 8, 9, 11, 12, 13, 19, 20, 21, 50, 51, 299, 300, 301, 2000, 2999, 3000, 3001, 20_000, 20_001, 99_999, 100_000,
    100_001, 999_999, 1_000_000, 1_000_001, Integer.MAX_VALUE - 1, Integer.MAX_VALUE};
  private static final Random DRAW = new Random(39);
  private static int wrong = 0;
  private static long checked = 0;

  private static void due(boolean right, String told) {
    checked++;
    if (!right) {
      wrong++;
      if (wrong <= 50) {
        System.out.println(told);
      }
    }
  }

  /** All mints and purses as a text, by at() and has(). */
  private static String dump(MintHouse x) {
    StringBuilder text = new StringBuilder();
    for (int p = 0; p < 8; p++) {
      for (int i = 0; i < x.at(p, -1); i++) {
        text.append(x.at(p, i)).append(' ');
      }
      text.append('|');
      for (int i = 0; i < x.has(p, -1); i++) {
        text.append(x.has(p, -3 - i)).append('*').append(x.has(p, i)).append(' ');
      }
      text.append('/');
    }
    return text.toString();
  }

  private static String dumpHand(MintHouse x, int coins) {
    StringBuilder text = new StringBuilder();
    for (int i = 0; i < coins; i++) {
      text.append(x.hand(i)).append(' ');
    }
    return text.toString();
  }

  /** How many coins HAND has, and NONE while nothing lies in it. */
  private static int handCoins(MintHouse x) {
    try {
      x.rank();
    } catch (java.util.NoSuchElementException e) {
      return -1;
    }
    for (int i = 0;; i++) {
      try {
        x.hand(i);
      } catch (java.util.NoSuchElementException e) {
        return i;
      }
    }
  }

  /** A purse keeps to its limits and a mint to its own, whatever was called. */
  private static void dueLimits(MintHouse x, String call) {
    for (int p = 0; p < 8; p++) {
      int before = 0;
      due(x.at(p, -1) <= 12, call + ": more than 12 coins");
      for (int i = 0; i < x.at(p, -1); i++) {
        due(x.at(p, i) > before && x.at(p, i) <= 300, call + ": coins not rising, or above 300");
        before = x.at(p, i);
      }
      int sum = 0;
      before = 0;
      due(x.has(p, -1) <= 12, call + ": more than 12 values");
      for (int i = 0; i < x.has(p, -1); i++) {
        int value = x.has(p, -3 - i);
        due(value > before && value <= 300, call + ": values not rising, or above 300");
        due(x.has(p, i) >= 0 && x.has(p, i) <= 20, call + ": not 0 to 20 of a value");
        before = value;
        sum += value * x.has(p, i);
      }
      due(sum <= 20_000 && sum == x.has(p, -2), call + ": sum of a purse");
    }
  }

  private static Object argument(Class<?> type, boolean wild) {
    if (type == long.class) {
      long[] sums = {Long.MIN_VALUE, -1, 0, 1, 5, 89_999, 90_000, 1_000_000_000_000_000L, 1_000_000_000_000_001L,
        Long.MAX_VALUE};
      return wild ? sums[DRAW.nextInt(sums.length)] : (long) DRAW.nextInt(100_000);
    }
    return wild ? WILD[DRAW.nextInt(WILD.length)] : DRAW.nextInt(DRAW.nextBoolean() ? 8 : 40);
  }

  private static boolean begins(String name, Object answer) {
    if (!BEGINNING.contains(name)) {
      return false;
    }
    return answer == null || answer.equals(true) || answer instanceof Integer && (Integer) answer >= 0;
  }

  private static boolean declared(Method method, Throwable thrown) {
    return Arrays.asList(method.getExceptionTypes()).contains(thrown.getClass());
  }

  private static void run(List<Method> methods, int wildness) throws IllegalAccessException {
    MintHouse x = new MintHouse();
    List<String> behind = new ArrayList<>();
    List<String> ahead = new ArrayList<>();
    String now = dump(x);
    String handed = "";
    for (int call = 0; call < 512; call++) {
      Method method = methods.get(DRAW.nextInt(methods.size()));
      Object[] arguments = new Object[method.getParameterCount()];
      for (int i = 0; i < arguments.length; i++) {
        arguments[i] = argument(method.getParameterTypes()[i], DRAW.nextInt(100) < wildness);
      }
      String told = method.getName() + Arrays.toString(arguments);
      Object answer = "thrown";
      try {
        answer = method.invoke(x, arguments);
      } catch (InvocationTargetException e) {
        due(declared(method, e.getCause()), told + " threw " + e.getCause());
      }
      String after = dump(x);
      if (method.getName().equals("undo") || method.getName().equals("redo")) {
        boolean undo = method.getName().equals("undo");
        List<String> from = undo ? behind : ahead;
        due(answer.equals(!from.isEmpty()), told + " answered " + answer);
        if (!from.isEmpty()) {
          (undo ? ahead : behind).add(now);
          now = from.remove(from.size() - 1);
        }
      } else if (begins(method.getName(), answer)) {
        behind.add(now);
        if (behind.size() > 20) {
          behind.remove(0);
        }
        ahead.clear();
        now = after;
      }
      due(after.equals(now), told + " answered " + answer + " and left " + after + ", due is " + now);
      now = after;
      dueLimits(x, told);
      int coins = handCoins(x);
      String hand = coins < 0 ? "" : dumpHand(x, coins);
      due(HANDED.contains(method.getName()) || hand.equals(handed), told + " changed the hand");
      due(!Boolean.FALSE.equals(answer) || hand.equals(handed), told + " answered false and changed the hand");
      handed = hand;
    }
  }

  public static void main(String[] args) throws IllegalAccessException {
    List<Method> methods = new ArrayList<>();
    for (Method method : MintHouse.class.getDeclaredMethods()) {
      if (Modifier.isPublic(method.getModifiers())) {
        methods.add(method);
      }
    }
    methods.sort((a, b) -> a.toString().compareTo(b.toString()));
    List<Method> changing = new ArrayList<>();
    for (Method method : methods) {
      if (BEGINNING.contains(method.getName()) || method.getName().endsWith("do")) {
        changing.add(method);
      }
    }
    for (int round = 0; round < 40; round++) {
      run(methods, new int[] {0, 10, 40, 90}[round % 4]);
      run(changing, round % 2 == 0 ? 0 : 15);
    }
    System.out.println(wrong == 0 ? checked + " answers are as due" : wrong + " answers are not as due");
    if (wrong != 0) {
      System.exit(1);
    }
  }
}
