import java.lang.reflect.InvocationTargetException;
import java.lang.reflect.Method;
import java.util.Random;

/** Every call with ordinary and extreme arguments, in many states: none may throw. */
public final class ExtremesTest {
  private static final int[] INTS = {Integer.MIN_VALUE, Integer.MIN_VALUE + 1, -100000, -2, -1, 0, 1, 2, 3, 4, 5, 7, 8, 9, 15, 16, 20, 24, 60, 64, 200, 511, 512,
    4096, 32768, 65535, 65536, 262143, 1 << 30, Integer.MAX_VALUE - 1, Integer.MAX_VALUE};
  private static final String[] TEXTS = {
    "",
    "spouse a 0; spouse b 99; couple a b; third t 9 99; length = 9999 * 9999 * 99; says = 0 - 9999 * 9999; bends = 9999 * 9999 * mood / week;",
    "spouse a 99; spouse b 99; spouse c 99; spouse d 99; spouse e 99; spouse f 99; couple a f; couple c d; couple e b;"
      + "third t 9 0; third u 8 0; third v 7 0; third w 6 0; length = 5; drops = week; takes = word - 4 + which;"
      + "bends = word + 8192 * 8192 * 32 / (0 - 1 + place); loves = 9; dares = fines - 9999 * 9999 * 9999; seed 9999; fine 99;",
    "says = ((((((1)+(2)*((((3+4*(5+6*(7+8*(word",
    "third t 1 1; bends = 1+2*(3+4*(5+6*(7+8*(1+2*(3+4*(place-word*which/tired))))));"};

  private static Object any(Class<?> type, Random dice) {
    if (type == boolean.class) return dice.nextBoolean();
    return dice.nextInt(3) > 0 ? INTS[dice.nextInt(INTS.length)] : dice.nextInt(6) - 1;
  }

  public static void main(String[] args) throws IllegalAccessException {
    int thrown = 0;
    int calls = 0;
    for (int run = 0; run < 120; run++) {
      Random dice = new Random(run);
      SpouseTalk x = new SpouseTalk();
      Tape.feed(x, TEXTS[run % TEXTS.length]);
      x.read();
      for (int i = 0; i < 900; i++) {
        Method[] methods = SpouseTalk.class.getMethods();
        Method m = methods[dice.nextInt(methods.length)];
        if (m.getDeclaringClass() != SpouseTalk.class || m.getName().equals("read") && dice.nextInt(9) > 0) continue;
        Class<?>[] types = m.getParameterTypes();
        Object[] values = new Object[types.length];
        for (int j = 0; j < types.length; j++) values[j] = any(types[j], dice);
        calls++;
        try {
          m.invoke(x, values);
        } catch (InvocationTargetException e) {
          thrown++;
          System.out.println("run " + run + ": " + m.getName() + java.util.Arrays.toString(values) + " threw " + e.getCause());
        }
      }
    }
    System.out.println(calls + " calls, " + thrown + " threw");
    if (thrown != 0) System.exit(1);
  }
}
