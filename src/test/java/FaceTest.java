import java.lang.reflect.Constructor;
import java.lang.reflect.Field;
import java.lang.reflect.Method;
import java.lang.reflect.Modifier;
import java.util.TreeSet;

/** The face is the document's, with its exceptions, and nothing else can be seen. */
public final class FaceTest {
  private static final String[] FACE = {
    "int coin(int, int)", "boolean melt(int, int)", "int at(int, int) N", "boolean undo()", "boolean redo()",
    "long fewest(int, long) NI", "long with(int, long, int) NI", "long greedy(int, long) NI", "boolean always(int) N",
    "int fails(int) N", "int divisor(int) N", "long many(int) N", "int last(int) N", "int gap(int, int) NI",
    "int rest(int, int) NI", "boolean mirror(int) N", "int needed(int) N", "boolean same(int, int) N",
    "int join(int, int, int) N", "int part(int, int, int) N", "int factor(int, int, int) NI", "long ways(int, int) NI",
    "boolean of(int, int, long) NI", "int hand(int) N", "int put(int, int) NI", "long rank() N",
    "int apart(int, int) NI", "int stamps(int, int) NI", "long span(int, int, int) NI", "int best(int, int, int) NI",
    "int cases()", "void open(int, int) N", "int fill(int, int, int) N", "int has(int, int) N", "int pays(int, int) N",
    "int holes(int) N", "int change(int, int, int) NI", "int deal(int, int, int) NI"};

  private static int wrong = 0;

  private static void due(String what, boolean right) {
    if (!right) {
      wrong++;
      System.out.println(what);
    }
  }

  private static String told(Method method) {
    StringBuilder text = new StringBuilder();
    text.append(method.getReturnType().getName()).append(' ').append(method.getName()).append('(');
    for (int i = 0; i < method.getParameterCount(); i++) {
      text.append(i == 0 ? "" : ", ").append(method.getParameterTypes()[i].getName());
    }
    text.append(')');
    for (int i = 0; i < method.getExceptionTypes().length; i++) {
      text.append(i == 0 ? " " : "").append(method.getExceptionTypes()[i].getSimpleName().charAt(0));
    }
    return text.toString();
  }

  public static void main(String[] args) {
    TreeSet<String> want = new TreeSet<>();
    for (String call : FACE) {
      want.add(call);
    }
    TreeSet<String> names = new TreeSet<>();
    for (Method method : MintHouse.class.getDeclaredMethods()) {
      if (Modifier.isPublic(method.getModifiers())) {
        due("not of the document: " + told(method), want.remove(told(method)));
        names.add(method.getName());
      }
    }
    due("missing: " + want, want.isEmpty());
    for (Method method : MintHouse.class.getDeclaredMethods()) {
      boolean isPublic = Modifier.isPublic(method.getModifiers());
      due("seen: " + method, isPublic || Modifier.isPrivate(method.getModifiers()));
      due("a private one with a public name: " + method, isPublic || !names.contains(method.getName()));
    }
    for (Class<?> inside : MintHouse.class.getDeclaredClasses()) {
      due("not static: " + inside, Modifier.isStatic(inside.getModifiers()));
      due("seen: " + inside, !Modifier.isPublic(inside.getModifiers()) && !Modifier.isProtected(inside.getModifiers()));
      for (Method method : inside.getDeclaredMethods()) {
        due("a name of the face: " + method, !names.contains(method.getName()));
      }
      due("too many fields: " + inside, inside.getDeclaredFields().length <= 20);
    }
    for (Field field : MintHouse.class.getDeclaredFields()) {
      due("seen: " + field, field.getName().equals("NONE") || Modifier.isPrivate(field.getModifiers()));
      due("static, not final: " + field,
          !Modifier.isStatic(field.getModifiers()) || Modifier.isFinal(field.getModifiers()));
    }
    Constructor<?>[] made = MintHouse.class.getDeclaredConstructors();
    due("constructors", made.length == 1 && Modifier.isPublic(made[0].getModifiers()) && made[0].getParameterCount() == 0);
    due("the class is final", Modifier.isFinal(MintHouse.class.getModifiers()));
    due("the class has no package", MintHouse.class.getPackageName().isEmpty());
    due("classes", MintHouse.class.getDeclaredClasses().length <= 12);
    due("NONE", MintHouse.NONE == -1);
    System.out.println(wrong == 0 ? "the face is as due" : wrong + " things of the face are not as due");
    if (wrong != 0) {
      System.exit(1);
    }
  }
}
