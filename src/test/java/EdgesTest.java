import java.lang.reflect.Method;
import java.util.Arrays;
import java.util.HashMap;
import java.util.Map;

/**
 * Each method with each mixture of numbers at its edges, on a new object and on objects that hold something, held against
 * SlowPhraseMoods: so it shows which refusal comes first, where more than one is due.
 */
final class EdgesTest {
  private static final int MIN = Integer.MIN_VALUE, MAX = Integer.MAX_VALUE;
  /** An object is used for at most 512 calls; those that make it are among them. */
  private static final int CALLS_MOST = 512;
  private static final int STATES = 4;

  private static final Map<String, Method> FAST = methodsOf(PhraseMoods.class);
  private static final Map<String, Method> SLOW = methodsOf(SlowPhraseMoods.class);

  private final int state;
  private PhraseMoods x;
  private SlowPhraseMoods y;
  private int calls;

  private EdgesTest(int state) {
    this.state = state;
  }

  public static void main(String[] args) throws Exception {
    for (int state = 0; state < STATES; state++) {
      new EdgesTest(state).sweepAll();
    }
    Due.end();
  }

  private static Map<String, Method> methodsOf(Class<?> c) {
    Map<String, Method> found = new HashMap<>();
    for (Method m : c.getDeclaredMethods()) {
      if (m.getReturnType() == int.class && Arrays.stream(m.getParameterTypes()).allMatch(t -> t == int.class)) {
        m.setAccessible(true);
        found.put(m.getName(), m);
      }
    }
    return found;
  }

  private int call(String name, int... args) throws Exception {
    calls++;
    Object[] boxed = Arrays.stream(args).boxed().toArray();
    int got = (int) FAST.get(name).invoke(x, boxed);
    int want = (int) SLOW.get(name).invoke(y, boxed);
    Due.due("state " + state + ": " + name + Arrays.toString(args), got, want);
    return got;
  }

  private void feed(String text) throws Exception {
    for (int i = 0; i < text.length(); i++) {
      call("feed", 1, text.charAt(i), 0, 0, 0, 0);
    }
  }

  /** State 0 is new, 1 has WORDS, 2 FRAMES too, 3 something of everything. */
  private void begin() throws Exception {
    x = new PhraseMoods();
    y = new SlowPhraseMoods();
    calls = 0;
    String[] stems = {"a", "gat", "lop", "can", "an", "bel", "po"};
    int[] kinds = {0, 1, 1, 2, 3, 4, 5};
    for (int i = 0; i < stems.length && state > 0; i++) {
      feed(stems[i]);
      call("word", kinds[i], i % 2, i % 3);
    }
    String[] frames = {"n00v0", "f01n01p0"};
    for (int i = 0; i < frames.length && state > 1; i++) {
      feed(frames[i]);
      call("frame");
    }
    if (state > 2) {
      feed("s");
      call("ending", 0, 1, 1);
      feed("gat can");
      call("text");
      call("desk", 1, 1);
      call("image");
      feed("new");
      call("word", 0, 0, 0);
      call("tray", 0, 1, 3);
      call("lays", 0, 1, 4);
      call("tray", 1, 0, 0);
      call("sheet", 0, 0, 3);
      call("sheet", 1, 1, 3);
      call("sheet", 2, 0, 7);
    }
  }

  private void sweepAll() throws Exception {
    int[] bytes = {-1, 0, 255, 256};
    sweep("feed", new int[] {0, 1, 5, 6}, bytes, bytes, bytes, bytes, bytes);
    sweep("word", edges(0, 5), edges(0, 3), edges(0, 2));
    sweep("ending", edges(0, 3), edges(0, 3), edges(0, 1));
    sweep("frame");
    sweep("told", edges(0, 7), edges(0, 3));
    sweep("taken", edges(0, 7), all(-1, 6));
    sweep("form", edges(0, 7), edges(0, 95), edges(-1, 5));
    sweep("hole", edges(0, 1), all(-1, 6), all(-1, 5));
    sweep("desk", edges(0, 1), edges(0, 3));
    sweep("choose", all(-1, 3), all(-1, 8));
    sweep("number", edges(0, 2), edges(0, 1));
    sweep("said", edges(-1, 9));
    sweep("spoken", edges(1, 99));
    sweep("text");
    sweep("readings", edges(0, 2));
    sweep("near", edges(0, 1));
    sweep("drawn", edges(-1, 1), edges(0, 1));
    sweep("chance", edges(-1, 1), edges(1, 8), edges(0, 1));
    sweep("tray", edges(0, 3), edges(0, 5), edges(0, 20));
    sweep("lays", all(-1, 4), edges(0, 2), all(-2, 8));
    sweep("laid", all(-1, 4), edges(0, 2));
    sweep("like", all(-1, 4), all(-1, 4));
    sweep("tells", all(-1, 4), edges(0, 2));
    sweep("image");
    sweep("back");
    sweep("count", edges(0, 4));
    sweep("sheet", all(-1, 4), edges(-1, 1), edges(0, 40));
    sweep("put", all(-1, 4), edges(0, 2), new int[] {MIN, 3, MAX});
    int[] places = {MIN, -1, 0, 2, 3, 4, MAX};
    sweep("copy", all(-1, 4), places, all(-1, 4), places, places);
  }

  private static int[] edges(int least, int most) {
    return new int[] {MIN, least - 1, least, most, most + 1, MAX};
  }

  private static int[] all(int least, int most) {
    int[] values = new int[most - least + 1];
    for (int i = 0; i < values.length; i++) {
      values[i] = least + i;
    }
    return values;
  }

  /** Each mixture: how it counts on is as a number whose digits are the places in the rows of values. */
  private void sweep(String name, int[]... values) throws Exception {
    begin();
    int[] at = new int[values.length];
    int[] args = new int[values.length];
    for (boolean more = true; more;) {
      if (calls + 2 > CALLS_MOST) {
        begin();
      }
      for (int i = 0; i < args.length; i++) {
        args[i] = values[i][at[i]];
      }
      call(name, args);
      call("count", 4);
      more = countOn(at, values);
    }
  }

  private static boolean countOn(int[] at, int[][] values) {
    for (int i = at.length - 1; i >= 0; i--) {
      at[i]++;
      if (at[i] < values[i].length) {
        return true;
      }
      at[i] = 0;
    }
    return false;
  }
}
