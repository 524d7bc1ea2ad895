import java.io.File;
import java.io.IOException;
import java.lang.reflect.Method;
import java.lang.reflect.Modifier;
import java.nio.charset.StandardCharsets;
import java.nio.file.Files;
import java.nio.file.Path;
import java.util.ArrayList;
import java.util.Comparator;
import java.util.List;
import java.util.regex.Matcher;
import java.util.regex.Pattern;
import java.util.stream.Stream;

/** README.md: its example is the file that it names, and prints by its commands what stands there; it names each call and test. */
final class ReadmeTest {
  private static final String CLASS = "src/main/java/PhraseMoods.java";
  private static final String EXAMPLE = "src/example/java/PhraseExample.java";

  public static void main(String[] args) throws Exception {
    String readme = Files.readString(Path.of("README.md"));
    holds("README.md has one example", blocks(readme, "java").size() == 1);
    holds("README.md tells what it prints", blocks(readme, "text").size() == 1);
    holds("README.md has the commands of the example, then that of the tests", blocks(readme, "sh").size() == 2);
    Due.dueText("the example", blocks(readme, "java").get(0), Files.readString(Path.of(EXAMPLE)));
    Due.dueText("the commands", printedBy(blocks(readme, "sh").get(0)), blocks(readme, "text").get(0));
    Due.dueText("the command of all tests", blocks(readme, "sh").get(1), "bash .ci/run\n");
    namesAllCalls(readme);
    namesAllTests(readme);
    Due.end();
  }

  private static void holds(String what, boolean does) {
    Due.due(what, does ? 1 : 0, 1);
  }

  private static List<String> blocks(String readme, String kind) {
    List<String> found = new ArrayList<>();
    Matcher m = Pattern.compile("^```" + kind + "\n(.*?)^```$", Pattern.DOTALL | Pattern.MULTILINE).matcher(readme);
    while (m.find()) {
      found.add(m.group(1));
    }
    return found;
  }

  /** In a folder that has no more than the two files, so that nothing compiled is left in the project. */
  private static String printedBy(String commands) throws IOException, InterruptedException {
    Path folder = Files.createTempDirectory("readme");
    for (String file : List.of(CLASS, EXAMPLE)) {
      Files.createDirectories(folder.resolve(file).getParent());
      Files.copy(Path.of(file), folder.resolve(file));
    }
    Process run = new ProcessBuilder("sh", "-e", "-c", commands).directory(folder.toFile())
      .redirectError(ProcessBuilder.Redirect.INHERIT).start();
    run.getOutputStream().close();
    String printed = new String(run.getInputStream().readAllBytes(), StandardCharsets.UTF_8);
    Due.due("the commands end with", run.waitFor(), 0);
    try (Stream<Path> all = Files.walk(folder)) {
      all.sorted(Comparator.reverseOrder()).map(Path::toFile).forEach(File::delete);
    }
    return printed;
  }

  private static void namesAllCalls(String readme) {
    for (Method m : PhraseMoods.class.getDeclaredMethods()) {
      if (Modifier.isPublic(m.getModifiers())) {
        holds("README.md tells of the call " + m.getName(), readme.contains("`" + m.getName() + "`"));
      }
    }
  }

  private static void namesAllTests(String readme) {
    File[] files = new File("src/test/java").listFiles((dir, name) -> name.endsWith("Test.java"));
    holds("there are tests", files != null && files.length > 0);
    for (File file : files == null ? new File[0] : files) {
      String name = file.getName().replace(".java", "");
      holds("README.md tells of " + name, readme.contains("| " + name + " |"));
    }
    Matcher m = Pattern.compile("^\\| (\\w+Test) \\|", Pattern.MULTILINE).matcher(readme);
    while (m.find()) {
      holds("there is " + m.group(1), new File("src/test/java/" + m.group(1) + ".java").exists());
    }
  }
}
