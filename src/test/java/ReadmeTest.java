import java.lang.reflect.Method;
import java.lang.reflect.Modifier;
import java.nio.file.Files;
import java.nio.file.Path;
import java.util.Arrays;
import java.util.Set;
import java.util.TreeSet;
import java.util.regex.Matcher;
import java.util.regex.Pattern;

/** What README.md tells of the class is so: its example's answers, and a row of its table for each call. */
public final class ReadmeTest {
  private static final Pattern EXAMPLE = Pattern.compile("a\\.(\\w+)\\(([-0-9, ]*)\\); +// (true|false|-?[0-9]+)(:.*)?");
  private static final Pattern ROW = Pattern.compile("\\| `(\\w+)\\(([a-z, ]*)\\)` \\|.*");
  private static final Set<String> TOLD = new TreeSet<>();
  private static int wrong = 0;
  private static int examples = 0;

  public static void main(String[] args) throws Exception {
    AlbumSetter a = new AlbumSetter();
    for (String line : Files.readAllLines(Path.of("README.md"))) {
      Matcher example = EXAMPLE.matcher(line);
      if (example.matches()) ask(a, example);
      else must(!line.startsWith("a."), "an example tells its answer: " + line);
      Matcher row = ROW.matcher(line);
      if (row.matches()) TOLD.add(row.group(1) + " " + numbersIn(row.group(2)));
    }
    must(examples > 10, "there is an example");
    must(TOLD.equals(face()), "the table has the calls of the class: " + TOLD);
    System.out.println(wrong == 0 ? examples + " answers of the example are as README.md says" : wrong + " things are not so");
    if (wrong != 0) System.exit(1);
  }

  private static void ask(AlbumSetter a, Matcher example) throws Exception {
    examples++;
    String list = example.group(2).trim();
    String[] words = list.isEmpty() ? new String[0] : list.split(", *");
    Object[] numbers = new Object[words.length];
    for (int i = 0; i < words.length; i++) numbers[i] = Integer.valueOf(words[i].trim());
    Class<?>[] types = new Class<?>[words.length];
    Arrays.fill(types, int.class);
    Object got = AlbumSetter.class.getMethod(example.group(1), types).invoke(a, numbers);
    must(got.toString().equals(example.group(3)), example.group() + " answered " + got);
  }

  private static Set<String> face() {
    Set<String> calls = new TreeSet<>();
    for (Method m : AlbumSetter.class.getDeclaredMethods()) {
      if (Modifier.isPublic(m.getModifiers())) calls.add(m.getName() + " " + m.getParameterCount());
    }
    return calls;
  }

  private static int numbersIn(String list) {
    return list.isEmpty() ? 0 : list.split(",").length;
  }

  private static void must(boolean holds, String what) {
    if (holds) return;
    wrong++;
    System.out.println("not so: " + what);
  }
}
