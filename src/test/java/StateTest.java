import java.lang.reflect.InvocationTargetException;
import java.lang.reflect.Method;
import java.lang.reflect.Modifier;
import java.util.ArrayList;
import java.util.Arrays;
import java.util.List;
import java.util.NoSuchElementException;
import java.util.Random;
import java.util.Set;

/**
 * Runs of calls of the whole face with ordinary and wild arguments, by a fixed seed: which calls
 * begin a state, what undo and redo bring back, that all others leave all as it was, and that
 * nothing is thrown but what the face declares. As an object serves 512 calls only, what stands
 * behind each call of a run is looked at on a new object that was asked the same up to there; so
 * it shows too that the same calls give the same answers.
 */
public final class StateTest {
  private static final Set<String> BEGINNING =
      Set.of("coin", "melt", "join", "part", "factor", "best", "open", "fill", "deal");
  private static final Set<String> HANDED = Set.of("of", "put");
  private static final int[] WILD = {Integer.MIN_VALUE, Integer.MIN_VALUE + 1, -301, -15, -4, -3, -2, -1, 0, 1, 2, 3, 6,
    7, 8, 9, 11, 12, 13, 19, 20, 21, 50, 51, 299, 300, 301, 2000, 2999, 3000, 3001, 20_000, 20_001, 99_999, 100_000,
    100_001, 999_999, 1_000_000, 1_000_001, Integer.MAX_VALUE - 1, Integer.MAX_VALUE};
  private static final int MOST_CALLS = 512;
  private static final int LENGTH = 150;
  private static final Random DRAW = new Random(39);
  private static int wrong = 0;
  private static long checked = 0;

  private static void due(boolean right, String told) {
    checked++;
    if (!right) {
      wrong++;
      if (wrong <= 50) {
        System.out.println(told);
      }
    }
  }

  /** What stands in an object: all mints and purses, and what lies in hand, each looked at once. */
  private static final class Look {
    private final MintHouse x;
    private final String call;
    private int asked;
    private String state = "";
    private String hand = "";

    Look(MintHouse x, int asked, String call) {
      this.x = x;
      this.asked = asked;
      this.call = call;
      for (int place = 0; place < 8; place++) {
        lookAtMint(place);
        lookAtPurse(place);
      }
      lookAtHand();
      due(this.asked <= MOST_CALLS, call + ": an object was asked " + this.asked + " times");
    }

    private int at(int mint, int i) {
      asked++;
      return x.at(mint, i);
    }

    private int has(int purse, int i) {
      asked++;
      return x.has(purse, i);
    }

    private void lookAtMint(int mint) {
      int count = at(mint, -1);
      due(count <= 12, call + ": more than 12 coins");
      int before = 0;
      for (int i = 0; i < count; i++) {
        int value = at(mint, i);
        due(value > before && value <= 300, call + ": coins not rising, or above 300");
        before = value;
        state += value + " ";
      }
      state += "|";
    }

    private void lookAtPurse(int purse) {
      int count = has(purse, -1);
      due(count <= 12, call + ": more than 12 values");
      int before = 0;
      int sum = 0;
      for (int i = 0; i < count; i++) {
        int value = has(purse, -3 - i);
        int often = has(purse, i);
        due(value > before && value <= 300, call + ": values not rising, or above 300");
        due(often >= 0 && often <= 20, call + ": not 0 to 20 of a value");
        before = value;
        sum += value * often;
        state += value + "*" + often + " ";
      }
      due(sum <= 20_000 && sum == has(purse, -2), call + ": sum of a purse");
      state += "/";
    }

    private void lookAtHand() {
      try {
        asked++;
        x.rank();
        hand = "of";
        for (int i = 0; i <= 12; i++) {
          asked++;
          hand += " " + x.hand(i);
        }
        due(false, call + ": more than 12 coins in hand");
      } catch (NoSuchElementException e) {
        // Nothing lies in hand, or there are no more coins: all is looked at.
      }
    }
  }

  private static Object argument(Class<?> type, boolean wild) {
    if (type == long.class) {
      long[] sums = {Long.MIN_VALUE, -1, 0, 1, 5, 89_999, 90_000, 1_000_000_000_000_000L, 1_000_000_000_000_001L,
        Long.MAX_VALUE};
      return wild ? sums[DRAW.nextInt(sums.length)] : (long) DRAW.nextInt(100_000);
    }
    return wild ? WILD[DRAW.nextInt(WILD.length)] : DRAW.nextInt(DRAW.nextBoolean() ? 8 : 40);
  }

  private static boolean begins(String name, Object answer) {
    if (!BEGINNING.contains(name)) {
      return false;
    }
    return answer.equals("done") || answer.equals(true) || answer instanceof Integer && (Integer) answer >= 0;
  }

  private static boolean declared(Method method, Throwable thrown) {
    return Arrays.asList(method.getExceptionTypes()).contains(thrown.getClass());
  }

  private static Object[] arguments(Method method, int wildness) {
    Object[] arguments = new Object[method.getParameterCount()];
    for (int i = 0; i < arguments.length; i++) {
      arguments[i] = argument(method.getParameterTypes()[i], DRAW.nextInt(100) < wildness);
    }
    return arguments;
  }

  private static Object answer(MintHouse x, Method method, Object[] arguments) throws IllegalAccessException {
    try {
      Object answer = method.invoke(x, arguments);
      return answer == null ? "done" : answer;
    } catch (InvocationTargetException e) {
      due(declared(method, e.getCause()), method.getName() + Arrays.toString(arguments) + " threw " + e.getCause());
      return e.getCause().getClass();
    }
  }

  private static void run(List<Method> methods, int wildness) throws IllegalAccessException {
    List<Method> called = new ArrayList<>();
    List<Object[]> given = new ArrayList<>();
    List<Object> answers = new ArrayList<>();
    List<String> behind = new ArrayList<>();
    List<String> ahead = new ArrayList<>();
    String now = new Look(new MintHouse(), 0, "new").state;
    String handed = "";
    for (int call = 0; call < LENGTH; call++) {
      MintHouse x = new MintHouse();
      for (int i = 0; i < call; i++) {
        Object again = answer(x, called.get(i), given.get(i));
        due(again.equals(answers.get(i)), called.get(i).getName() + " answered " + again + " the next time");
      }
      Method method = methods.get(DRAW.nextInt(methods.size()));
      Object[] arguments = arguments(method, wildness);
      Object answer = answer(x, method, arguments);
      called.add(method);
      given.add(arguments);
      answers.add(answer);
      String told = method.getName() + Arrays.toString(arguments);
      Look after = new Look(x, call + 1, told);
      if (method.getName().equals("undo") || method.getName().equals("redo")) {
        boolean undo = method.getName().equals("undo");
        List<String> from = undo ? behind : ahead;
        due(answer.equals(!from.isEmpty()), told + " answered " + answer);
        if (!from.isEmpty()) {
          (undo ? ahead : behind).add(now);
          now = from.remove(from.size() - 1);
        }
      } else if (begins(method.getName(), answer)) {
        behind.add(now);
        if (behind.size() > 20) {
          behind.remove(0);
        }
        ahead.clear();
        now = after.state;
      }
      due(after.state.equals(now), told + " answered " + answer + " and left " + after.state + ", due is " + now);
      now = after.state;
      boolean stays = !HANDED.contains(method.getName()) || answer.equals(false);
      due(!stays || after.hand.equals(handed), told + " changed the hand");
      handed = after.hand;
    }
  }

  public static void main(String[] args) throws IllegalAccessException {
    List<Method> methods = new ArrayList<>();
    for (Method method : MintHouse.class.getDeclaredMethods()) {
      if (Modifier.isPublic(method.getModifiers())) {
        methods.add(method);
      }
    }
    methods.sort((a, b) -> a.toString().compareTo(b.toString()));
    List<Method> changing = new ArrayList<>();
    for (Method method : methods) {
      if (BEGINNING.contains(method.getName()) || method.getName().endsWith("do")) {
        changing.add(method);
      }
    }
    for (int round = 0; round < 40; round++) {
      run(methods, new int[] {0, 10, 40, 90}[round % 4]);
      run(changing, round % 2 == 0 ? 0 : 15);
    }
    System.out.println(wrong == 0 ? checked + " answers are as due" : wrong + " answers are not as due");
    if (wrong != 0) {
      System.exit(1);
    }
  }
}
