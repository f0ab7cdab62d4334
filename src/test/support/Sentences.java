import java.io.IOException;
import java.nio.file.Files;
import java.nio.file.Path;
import java.util.ArrayList;
import java.util.List;

/** What the tests of the document's sentences share: a new object for each, and the wrong answers told. */
abstract class Sentences {
  static final int FAR = Integer.MAX_VALUE;
  static final int LOW = Integer.MIN_VALUE;
  static AlbumSetter x = null;
  private static final List<String> SAID = new ArrayList<>();
  private static int wrong = 0;

  /** Begins the test of that sentence of the document, or of a part of it. */
  static void sentence(String words) {
    SAID.add(words);
    x = new AlbumSetter();
  }

  static void due(String call, long got, long want) {
    if (got == want) return;
    wrong++;
    System.out.println("\"" + SAID.get(SAID.size() - 1) + "\": " + call + " answered " + got + ", due is " + want);
  }

  static void due(String call, boolean got, boolean want) {
    due(call, got ? 1 : 0, want ? 1 : 0);
  }

  static void squares(int count, int group) {
    for (int i = 0; i < count; i++) due("a square", x.picture(1, 1, 1, 0, group) >= 0, true);
  }

  static void wide(int w, int h) {
    due("a wide one", x.picture(w, h, 1, 1, 0) >= 0, true);
  }

  /** Worth 1, plain, of no group. */
  static void plain(int... sides) {
    for (int i = 0; i < sides.length; i += 2) due("a plain one", x.picture(sides[i], sides[i + 1], 1, 0, 0) >= 0, true);
  }

  static void dueShape(int from, int n, int k, long above, long below) {
    due("shape(" + from + ", " + n + ", " + k + ", 0)", x.shape(from, n, k, 0), above);
    due("shape(" + from + ", " + n + ", " + k + ", 1)", x.shape(from, n, k, 1), below);
  }

  /** Four numbers a picture: left, top, right, low. */
  static void dueSides(int from, int n, int k, int... want) {
    for (int spot = 0; spot < want.length; spot++) {
      int i = spot / 4;
      int what = spot % 4;
      due("side(" + from + ", " + n + ", " + k + ", " + i + ", " + what + ")", x.side(from, n, k, i, what), want[spot]);
    }
  }

  /** Three numbers a page: how many, the first, the tree. */
  static void dueLeaves(int... want) {
    due("pages()", x.pages(), want.length / 3);
    for (int spot = 0; spot < want.length; spot++) {
      due("leaf(" + spot / 3 + ", " + spot % 3 + ")", x.leaf(spot / 3, spot % 3), want[spot]);
    }
    due("leaf behind the last page", x.leaf(want.length / 3, 0), -1);
  }

  /** How many pictures each page has. */
  static void dueCounts(int... want) {
    due("pages()", x.pages(), want.length);
    for (int p = 0; p < want.length; p++) due("leaf(" + p + ", 0)", x.leaf(p, 0), want[p]);
  }

  static void duePicture(int i, int... want) {
    for (int field = 0; field < want.length; field++) {
      int what = 10 * i + 10 + field;
      due("about(" + what + ")", x.about(what), want[field]);
    }
  }

  static void duePage(int w, int h) {
    due("about(1)", x.about(1), w);
    due("about(2)", x.about(2), h);
  }

  /** What the object tells of its pictures, its page and its book. */
  static List<Integer> answers() {
    List<Integer> all = new ArrayList<>();
    for (int what = 0; what < 3; what++) all.add(x.about(what));
    for (int i = 0; i <= x.about(0); i++) {
      all.add(x.pageOf(i));
      for (int field = 0; field < 5; field++) all.add(x.about(10 * i + 10 + field));
    }
    for (int p = 0; p <= x.pages(); p++) for (int what = 0; what < 3; what++) all.add(x.leaf(p, what));
    all.addAll(List.of(x.book(), x.pages(), x.books(), x.changed()));
    return all;
  }

  static void dueNothingDone(List<Integer> before) {
    due("all answers are as before", answers().equals(before), true);
  }

  /** Ends the tests: every sentence said must be the document's, and every sentence of the document said. */
  static void end(Path document) throws IOException {
    String text = promisesOf(Files.readString(document));
    StringBuilder left = new StringBuilder(text);
    for (String words : SAID) {
      int at = text.indexOf(words);
      sayWrong(at < 0, "not in the document: " + words);
      for (; at >= 0; at = text.indexOf(words, at + 1)) {
        for (int i = at; i < at + words.length(); i++) left.setCharAt(i, '|');
      }
    }
    for (String rest : left.toString().split("\\|")) sayWrong(rest.matches(".*[A-Za-z].*"), "without a test: " + rest.trim());
    System.out.println(wrong == 0 ? SAID.size() + " tests of sentences hold" : wrong + " things are not as due");
    if (wrong != 0) System.exit(1);
  }

  private static void sayWrong(boolean is, String what) {
    if (!is) return;
    wrong++;
    System.out.println(what);
  }

  /** The sentences of the document on one line, without headings, signatures and what is not promised. */
  private static String promisesOf(String document) {
    int begin = document.indexOf("An object is used");
    int end = document.indexOf("## Not promised");
    String text = document.substring(begin, end)
        .replaceAll("(?s)```java.*?```", " ")
        .replaceAll("```(text)?", " ")
        .replaceAll("(?m)^#.*$", " ")
        .replaceAll("(?m)^`[^`]*`: ", " ")
        .replaceAll("==== \\d\\.( SIDES\\.)?", " ");
    return text.replaceAll("\\s+", " ").trim();
  }
}
