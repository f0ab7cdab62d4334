import java.io.IOException;
import java.lang.management.ManagementFactory;
import java.lang.reflect.Constructor;
import java.lang.reflect.Field;
import java.lang.reflect.Method;
import java.lang.reflect.Modifier;
import java.nio.file.Files;
import java.nio.file.Path;
import java.util.ArrayList;
import java.util.List;
import java.util.Set;
import java.util.TreeSet;
import java.util.regex.Pattern;

/** The face of the class, and those rules of LANGUAGE.md that can be seen from outside or in the text. */
public final class LanguageTest {
  private static final Set<String> FACE = Set.of(
      "boolean page(int,int)", "int picture(int,int,int,int,int)", "boolean change(int,int,int,int,int,int)",
      "boolean swap(int,int)", "boolean drop(int)", "int about(int)", "int trees(int)", "int tree(int,int,int)",
      "long shape(int,int,int,int)", "int side(int,int,int,int,int)", "int cost(int,int,int)", "int best(int,int)",
      "int book()", "int pages()", "int leaf(int,int)", "int pageOf(int)", "int books()", "int changed()", "boolean undo()");
  private static int wrong = 0;

  private static void must(boolean holds, String what) {
    if (!holds) {
      wrong++;
      System.out.println("not so: " + what);
    }
  }

  private static String signature(Method m) {
    List<String> types = new ArrayList<>();
    for (Class<?> type : m.getParameterTypes()) types.add(type.getName());
    return m.getReturnType().getName() + " " + m.getName() + "(" + String.join(",", types) + ")";
  }

  private static void face() {
    Class<?> c = AlbumSetter.class;
    must(Modifier.isPublic(c.getModifiers()) && Modifier.isFinal(c.getModifiers()), "the class is public and final");
    Set<String> seen = new TreeSet<>();
    for (Method m : c.getDeclaredMethods()) {
      if (m.isSynthetic() || Modifier.isPrivate(m.getModifiers())) continue;
      must(Modifier.isPublic(m.getModifiers()) && !Modifier.isStatic(m.getModifiers()), m + " is public and of the object");
      seen.add(signature(m));
    }
    must(seen.equals(new TreeSet<>(FACE)), "the methods are those of the document: " + seen);
    for (Constructor<?> k : c.getDeclaredConstructors()) must(Modifier.isPublic(k.getModifiers()) && k.getParameterCount() == 0, k + " is the document's");
    for (Field f : c.getDeclaredFields()) must(Modifier.isPrivate(f.getModifiers()) || f.getName().equals("NONE"), f + " is private");
  }

  private static void classes() {
    Set<String> names = new TreeSet<>();
    for (String s : FACE) names.add(s.substring(s.indexOf(' ') + 1, s.indexOf('(')));
    Class<?>[] inside = AlbumSetter.class.getDeclaredClasses();
    must(inside.length < 12, "there are at most twelve classes");
    List<Class<?>> all = new ArrayList<>(List.of(inside));
    for (Class<?> c : inside) must(Modifier.isStatic(c.getModifiers()), c + " is static");
    all.add(AlbumSetter.class);
    for (Class<?> c : all) {
      int fields = 0;
      for (Field f : c.getDeclaredFields()) {
        if (Modifier.isStatic(f.getModifiers())) must(Modifier.isFinal(f.getModifiers()), f + " is final");
        else fields++;
      }
      must(fields <= 20, c + " has at most twenty fields");
      for (Method m : c.getDeclaredMethods()) {
        must(m.getParameterCount() <= 7, m + " has at most seven parameters");
        must(c == AlbumSetter.class && Modifier.isPublic(m.getModifiers()) || !names.contains(m.getName()), m + " does not bear a public method's name");
      }
    }
  }

  private static void text() throws IOException {
    String raw = Files.readString(Path.of("src/main/java/AlbumSetter.java"));
    String code = raw.replaceAll("(?s)/\\*.*?\\*/", " ").replaceAll("//.*", "");
    String[] outside = {"throw", "throws", "try", "catch", "finally", "synchronized", "assert", "import", "package", "native", "volatile",
      "transient", "Object", "hashCode", "toString", "System\\.(?!arraycopy)", "\\w+Exact", "Thread", "Random", "super", "protected"};
    for (String word : outside) must(!Pattern.compile("\\b" + word + (word.endsWith(")") ? "" : "\\b")).matcher(code).find(), "no " + word + " in the text");
    for (String sign : new String[] {"->", "::", "\"", "@"}) must(!code.contains(sign), "no " + sign + " in the text");
    must(!Pattern.compile("while\\s*\\(\\s*true|for\\s*\\(\\s*;").matcher(code).find(), "no loop without an end");
    for (int i = 0; i < raw.length(); i++) must(raw.charAt(i) < 128, "signs of the text are plain");
    methodsAreShort(raw);
  }

  private static void methodsAreShort(String raw) {
    String[] lines = raw.split("\n");
    int begun = -1;
    for (int i = 0; i < lines.length; i++) {
      if (lines[i].matches("( {4}){1,2}[a-zA-Z][^=;]*\\) \\{")) begun = i;
      if (begun >= 0 && lines[i].matches("( {4}){1,2}\\}")) {
        must(i - begun < 60, "a method of sixty lines at most: " + lines[begun].trim());
        begun = -1;
      }
    }
  }

  /** One run's calls share a room that never empties: rows and objects come from constructors alone. */
  private static void nothingIsMadeByCalls() {
    com.sun.management.ThreadMXBean made = (com.sun.management.ThreadMXBean) ManagementFactory.getThreadMXBean();
    long me = Thread.currentThread().getId();
    everyCall(new AlbumSetter());
    long begun = made.getThreadAllocatedBytes(me);
    AlbumSetter x = new AlbumSetter();
    long ofObject = made.getThreadAllocatedBytes(me) - begun;
    must(ofObject < 60_000, "an object takes little room, not " + ofObject + " bytes");
    begun = made.getThreadAllocatedBytes(me);
    everyCall(x);
    long ofCalls = made.getThreadAllocatedBytes(me) - begun;
    must(ofCalls < 500, "calls make nothing, not " + ofCalls + " bytes");
  }

  private static long everyCall(AlbumSetter x) {
    long sum = 0;
    for (int i = 0; i < 14; i++) sum += x.picture(1 + i % 12, 12 - i % 12, 1 + i % 9, i % 7 == 6 ? 1 : 0, i / 2 % 5);
    for (int i = 0; i < 20; i++) {
      sum += x.page(20 + i, 60) ? 1 : 0;
      sum += x.change(i % 12, 1 + i % 3, 2, 3, i % 2, 4) ? 1 : 0;
      sum += x.swap(i % 12, i % 5) ? 1 : 0;
      if (i % 4 == 0) sum += x.drop(i % 11) ? 1 : 0;
      sum += x.changed() + x.book() + x.pages() + x.books() + x.leaf(1, 1) + x.pageOf(3);
      sum += x.about(10 + i) + x.trees(4) + x.tree(4, i, 1) + x.shape(0, 3, 1, 0) + x.side(0, 2, 1, 1, 3) + x.cost(1, 4, i) + x.best(2, 4);
      if (i % 3 == 0) sum += x.undo() ? 1 : 0;
    }
    return sum;
  }

  public static void main(String[] args) throws IOException {
    face();
    classes();
    text();
    nothingIsMadeByCalls();
    System.out.println(wrong == 0 ? "the face and the rules are kept" : wrong + " rules are not kept");
    if (wrong != 0) System.exit(1);
  }
}
