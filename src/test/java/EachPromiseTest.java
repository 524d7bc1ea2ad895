import java.io.File;
import java.nio.file.Files;
import java.util.Arrays;
import java.util.regex.Matcher;
import java.util.regex.Pattern;

/** Each promise, 1 to 30, has boundary tests: in the files BoundsOf*Test.java, by their names. */
final class EachPromiseTest {
  private static final int PROMISES = 30;

  public static void main(String[] args) throws Exception {
    int[] tests = new int[PROMISES + 1];
    File[] files = new File("src/test/java").listFiles((dir, name) -> name.matches("BoundsOf.*Test\\.java"));
    for (File file : files == null ? new File[0] : files) {
      Matcher m = Pattern.compile("static void p([0-9][0-9])[A-Z]\\w*\\(\\) \\{").matcher(Files.readString(file.toPath()));
      while (m.find()) {
        int promise = Integer.parseInt(m.group(1));
        Due.due("a promise that there is: " + promise, promise >= 1 && promise <= PROMISES ? 1 : 0, 1);
        tests[promise]++;
      }
    }
    for (int promise = 1; promise <= PROMISES; promise++) {
      Due.due("promise " + promise + " has boundary tests", tests[promise] > 0 ? 1 : 0, 1);
    }
    System.out.println(Arrays.stream(tests).sum() + " boundary tests");
    Due.end();
  }
}
