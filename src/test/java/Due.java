import java.lang.reflect.InvocationTargetException;
import java.lang.reflect.Method;
import java.util.Arrays;
import java.util.Comparator;

/** Counts the answers that are not the ones that are due, and feeds texts. */
final class Due {
  private static int wrong = 0;
  private static int asked = 0;
  /** The test that runs, with a colon; empty, if the class has no tests of their own. */
  private static String test = "";

  private Due() {
  }

  static void due(String call, long got, long want) {
    asked++;
    if (got != want) {
      wrong++;
      System.out.println(test + call + " answered " + got + ", due is " + want);
    }
  }

  static void dueText(String call, String got, String want) {
    asked++;
    if (!got.equals(want)) {
      wrong++;
      System.out.println(test + call + " answered \"" + got + "\", due is \"" + want + "\"");
    }
  }

  static void end() {
    System.out.println(asked + " answers, " + wrong + " not as due");
    if (wrong != 0 || asked == 0) {
      System.exit(1);
    }
  }

  /**
   * Runs the tests of a class, each told by its name: the static methods that begin with p and the number of the
   * promise that they hold. So none can be written and not run.
   */
  static void runAll(Class<?> tests) {
    Method[] methods = tests.getDeclaredMethods();
    Arrays.sort(methods, Comparator.comparing(Method::getName));
    int run = 0;
    for (Method m : methods) {
      if (m.getName().matches("p[0-9][0-9].*")) {
        test = m.getName() + ": ";
        int before = asked;
        runOne(m);
        due("asks something", asked > before ? 1 : 0, 1);
        run++;
      }
    }
    test = "";
    System.out.println(run + " tests");
    end();
  }

  private static void runOne(Method m) {
    try {
      m.invoke(null);
    } catch (InvocationTargetException e) {
      wrong++;
      System.out.println(test + "threw " + e.getCause());
    } catch (IllegalAccessException e) {
      wrong++;
      System.out.println(test + "can't be called");
    }
  }

  /** Feeds a text to THE TAPE, five bytes a call. */
  static void feed(PhraseMoods x, String text) {
    for (int i = 0; i < text.length(); i += 5) {
      int n = Math.min(5, text.length() - i);
      int[] b = new int[5];
      for (int j = 0; j < n; j++) {
        b[j] = text.charAt(i + j);
      }
      int answer = x.feed(n, b[0], b[1], b[2], b[3], b[4]);
      if (answer < 0) {
        throw new IllegalStateException("the tape refused \"" + text + "\" by " + answer);
      }
    }
  }

  static int word(PhraseMoods x, String stem, int kind, int table, int gender) {
    feed(x, stem);
    return x.word(kind, table, gender);
  }

  static int ending(PhraseMoods x, String letters, int table, int row, int number) {
    feed(x, letters);
    return x.ending(table, row, number);
  }

  static int frame(PhraseMoods x, String holes) {
    feed(x, holes);
    return x.frame();
  }

  static int text(PhraseMoods x, String words) {
    feed(x, words);
    return x.text();
  }

  static String said(PhraseMoods x) {
    StringBuilder line = new StringBuilder();
    int size = x.said(-1);
    for (int k = 0; k < size; k++) {
      line.append((char) x.said(k));
    }
    return line.toString();
  }

  static String form(PhraseMoods x, int word, int by) {
    StringBuilder form = new StringBuilder();
    int size = x.form(word, by, -1);
    for (int k = 0; k < size; k++) {
      form.append((char) x.form(word, by, k));
    }
    return form.toString();
  }

  static int by(int casus, int number, int gender, int mood) {
    return casus + 4 * number + 8 * gender + 24 * mood;
  }

  /**
   * Words 0 and (plain), 1 gat (noun, gender 1), 2 lope (noun), 3 cani (verb), 4 ana (name, gender 1),
   * 5 bel (fitting), 6 pode (modal); endings of tables 0 (nouns) and 1 (verbs).
   */
  static PhraseMoods small() {
    PhraseMoods x = new PhraseMoods();
    word(x, "and", 0, 0, 0);
    word(x, "gat", 1, 0, 1);
    word(x, "lope", 1, 0, 0);
    word(x, "cani", 2, 1, 0);
    word(x, "ana", 3, 0, 1);
    word(x, "bel", 4, 0, 0);
    word(x, "pode", 5, 1, 0);
    ending(x, "s", 0, 0, 1);
    ending(x, "um", 0, 1, 0);
    ending(x, "os", 0, 1, 1);
    ending(x, "a", 1, 0, 0);
    ending(x, "an", 1, 0, 1);
    ending(x, "eta", 1, 2, 0);
    return x;
  }
}
