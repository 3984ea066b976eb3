import java.lang.reflect.InvocationTargetException;
import java.lang.reflect.Method;
import java.lang.reflect.Modifier;
import java.util.ArrayList;
import java.util.Comparator;
import java.util.List;
import java.util.NoSuchElementException;
import java.util.Random;
import java.util.Set;

/**
 * Runs of 512 calls, each with any numbers, those among them at which arithmetic turns over or an array ends: nothing
 * is thrown but by table(), and there by a throw; and what only asks changes no answer of what is asked behind it.
 */
public final class Extremes {
  private static final int RUNS = 400;
  private static final int CALLS = 512;
  private static final int[] NUMBERS = {Integer.MIN_VALUE, Integer.MIN_VALUE + 1, -1000000, -25, -24, -4, -3, -2, -1, 0, 1, 2, 3, 4, 5, 6, 7, 8,
      11, 12, 13, 14, 15, 16, 23, 24, 31, 32, 33, 39, 40, 41, 59, 60, 61, 63, 64, 99, 100, 101, 127, 128, 255, 256, 399, 400, 401,
      20735, 20736, 20737, 65536, 1 << 30, Integer.MAX_VALUE - 1, Integer.MAX_VALUE};
  private static final long[] SEEDS = {Long.MIN_VALUE, -1, 0, 1, Long.MAX_VALUE};
  /** What may change something; all other calls ask. */
  private static final Set<String> CHANGE = Set.of("feed", "end", "text", "put", "take", "use", "order", "ways", "undo", "perform", "image", "back");
  private static final String TWELVE = "0/1/2/3/4/5/6/7/8/9/10/11";
  private static final String[] TABLES = {"", "a:", "d:99", "ab:1,2/1,3/2,3;bc:2,5/3,4/3,5;ca:5,1/4,1", "abc:0,0,0/1,2,3/5,5,5;bcd:0,0,0/2,3,4/5,5,5;dab:4,1,2/0,0,0;cda:",
      "a:" + TWELVE + ";b:" + TWELVE + ";c:" + TWELVE + ";d:" + TWELVE, "a:" + TWELVE + ";a:" + TWELVE + ";a:" + TWELVE + ";a:11/99"};
  private static final String[] SCRIPTS = {"p0:1;t0:1;u0;u1;o23", "p9:99,99,99", "u0;u1;u2;u3", "o1;o2;o3;o4;o5;o6;o7;o8;o9;o10;o11;o12", "p0:1,1;p0:1,1,1;t3:0"};

  private static int wrong = 0;
  private final List<Method> calls = new ArrayList<>();
  private final Random random = new Random(42);
  private final StringBuilder told = new StringBuilder();
  private LeapJoin x;
  private int made = 0;

  private Extremes() {
    for (Method m : LeapJoin.class.getDeclaredMethods()) if (Modifier.isPublic(m.getModifiers())) calls.add(m);
    calls.sort(Comparator.comparing(Method::getName));
  }

  private void bad(String what) {
    wrong++;
    System.out.println(what + "; behind " + told);
  }

  private int any() { return random.nextInt(3) == 0 ? random.nextInt(5) : NUMBERS[random.nextInt(NUMBERS.length)]; }
  private long anySeed() { return random.nextBoolean() ? random.nextLong() : SEEDS[random.nextInt(SEEDS.length)]; }

  private Object[] anyArguments(Method m) {
    Class<?>[] types = m.getParameterTypes();
    Object[] arguments = new Object[types.length];
    for (int i = 0; i < types.length; i++) {
      if (types[i] == long.class) arguments[i] = anySeed();
      else arguments[i] = m.getName().equals("feed") ? random.nextInt() : any();
    }
    return arguments;
  }

  /** The answer of a call as a text. */
  private String answer(Method m, Object[] arguments) throws IllegalAccessException {
    made++;
    told.append(m.getName()).append(List.of(arguments)).append(' ');
    try {
      return String.valueOf(m.invoke(x, arguments));
    } catch (InvocationTargetException e) {
      Throwable thrown = e.getCause();
      StackTraceElement[] where = thrown.getStackTrace();
      boolean named = thrown.getClass() == NoSuchElementException.class && m.getName().equals("table");
      if (!named || where.length == 0 || !where[0].getClassName().equals("LeapJoin")) bad(m.getName() + " threw " + thrown);
      return "thrown";
    }
  }

  private void tell(String text, int sort) {
    x.end(0);
    for (int i = 0; i < text.length(); i += 20) {
      int[] w = new int[5];
      for (int k = 0; k < 20 && i + k < text.length(); k++) w[k / 4] |= text.charAt(i + k) << 24 - 8 * (k % 4);
      x.feed(w[0], w[1], w[2], w[3], w[4]);
      made++;
    }
    x.text(sort);
    made += 2;
    told.append(text).append(' ');
  }

  private void go() throws IllegalAccessException {
    x = new LeapJoin();
    made = 0;
    told.setLength(0);
    tell(TABLES[random.nextInt(TABLES.length)], 0);
    for (int n = random.nextInt(6); n > 0; n--) tell(SCRIPTS[random.nextInt(SCRIPTS.length)], 1);
    while (made < CALLS - 40) {
      Method asked = calls.get(random.nextInt(calls.size()));
      Object[] arguments = anyArguments(asked);
      String first = answer(asked, arguments);
      if (!CHANGE.contains(asked.getName())) {
        Method between = calls.get(random.nextInt(calls.size()));
        if (!CHANGE.contains(between.getName())) answer(between, anyArguments(between));
        String second = answer(asked, arguments);
        if (!first.equals(second)) bad(asked.getName() + " answered " + first + ", then " + second);
      }
      if (random.nextInt(60) == 0) tell(TABLES[random.nextInt(TABLES.length)], 0);
    }
  }

  public static void main(String[] args) throws IllegalAccessException {
    Extremes all = new Extremes();
    for (int run = 0; run < RUNS && wrong < 5; run++) all.go();
    System.out.println(wrong == 0 ? RUNS + " runs of any numbers, nothing thrown" : "something is wrong");
    if (wrong != 0) System.exit(1);
  }
}
