import java.math.BigInteger;
import java.util.ArrayDeque;
import java.util.ArrayList;
import java.util.Deque;
import java.util.HashMap;
import java.util.List;
import java.util.Map;
import java.util.Random;

/**
 * Runs of calls with fixed seeds, each answer held against a second, plain reading of the document:
 * trees as objects made from their definition, big fractions, and every book gone through.
 */
public final class OracleTest {
  private static int wrong = 0;

  record Fraction(BigInteger above, BigInteger below) {
    static Fraction of(long above, long below) {
      return make(BigInteger.valueOf(above), BigInteger.valueOf(below));
    }
    static Fraction make(BigInteger above, BigInteger below) {
      BigInteger g = above.gcd(below);
      return new Fraction(above.divide(g), below.divide(g));
    }
    Fraction plus(Fraction o) { return make(above.multiply(o.below).add(o.above.multiply(below)), below.multiply(o.below)); }
    Fraction times(Fraction o) { return make(above.multiply(o.above), below.multiply(o.below)); }
    Fraction by(Fraction o) { return make(above.multiply(o.below), below.multiply(o.above)); }
    boolean atMost(Fraction o) { return above.multiply(o.below).compareTo(o.above.multiply(below)) <= 0; }
    /** floor(x + 1/2); lengths are never below 0 here. */
    int nearest() {
      Fraction x = plus(of(1, 2));
      return x.above.divide(x.below).intValueExact();
    }
  }

  /** cut 0: one picture; 1 ACROSS, 2 DOWN. */
  record Tree(int cut, int size, List<Tree> parts) {}

  static final Tree ONE = new Tree(0, 1, List.of());

  static List<Tree> withCut(int n, int cut) {
    if (n == 1) return List.of(ONE);
    List<Tree> all = new ArrayList<>();
    for (List<Integer> sizes : sizesOf(n)) {
      if (sizes.size() < 2) continue;
      List<List<Tree>> choices = new ArrayList<>();
      choices.add(List.of());
      for (int size : sizes) {
        List<List<Tree>> longer = new ArrayList<>();
        for (List<Tree> begun : choices) {
          for (Tree t : withCut(size, 3 - cut)) {
            List<Tree> more = new ArrayList<>(begun);
            more.add(t);
            longer.add(more);
          }
        }
        choices = longer;
      }
      for (List<Tree> parts : choices) all.add(new Tree(cut, n, parts));
    }
    return all;
  }

  /** All ways to write n as a sum in order, the lesser first at the first unlikeness. */
  static List<List<Integer>> sizesOf(int n) {
    List<List<Integer>> all = new ArrayList<>();
    if (n == 0) { all.add(List.of()); return all; }
    for (int first = 1; first <= n; first++) {
      for (List<Integer> rest : sizesOf(n - first)) {
        List<Integer> sizes = new ArrayList<>();
        sizes.add(first);
        sizes.addAll(rest);
        all.add(sizes);
      }
    }
    return all;
  }

  static final List<List<Tree>> TREES = new ArrayList<>();
  static {
    TREES.add(List.of());
    TREES.add(List.of(ONE));
    for (int n = 2; n <= 4; n++) {
      List<Tree> all = new ArrayList<>(withCut(n, 1));
      all.addAll(withCut(n, 2));
      TREES.add(all);
    }
  }

  record Picture(int w, int h, int worth, int kind, int group) {}
  record State(int w, int h, List<Picture> pictures) {}
  record Laid(Fraction shape, int[][] edges, int cost) {}
  record Page(int count, int first, int tree) {}
  record Book(int cost, List<Page> pages, int books) {}

  static Fraction shapeOf(Tree t, List<Picture> ps) {
    if (t.cut == 0) return Fraction.of(ps.get(0).w, ps.get(0).h);
    Fraction sum = Fraction.of(0, 1);
    int at = 0;
    for (Tree part : t.parts) {
      Fraction s = shapeOf(part, ps.subList(at, at + part.size));
      sum = sum.plus(t.cut == 1 ? s : Fraction.of(1, 1).by(s));
      at += part.size;
    }
    return t.cut == 1 ? sum : Fraction.of(1, 1).by(sum);
  }

  static void place(Tree t, List<Picture> ps, Fraction[] box, List<int[]> out) {
    if (t.cut == 0) {
      out.add(new int[] {box[0].nearest(), box[1].nearest(), box[0].plus(box[2]).nearest(), box[1].plus(box[3]).nearest()});
      return;
    }
    Fraction whole = shapeOf(t, ps);
    Fraction x = box[0];
    Fraction y = box[1];
    int at = 0;
    for (Tree part : t.parts) {
      List<Picture> own = ps.subList(at, at + part.size);
      Fraction s = shapeOf(part, own);
      if (t.cut == 1) {
        Fraction width = box[2].times(s).by(whole);
        place(part, own, new Fraction[] {x, y, width, box[3]}, out);
        x = x.plus(width);
      } else {
        Fraction height = box[3].times(whole).by(s);
        place(part, own, new Fraction[] {x, y, box[2], height}, out);
        y = y.plus(height);
      }
      at += part.size;
    }
  }

  record Key(int w, int h, List<Picture> ps, int k) {}
  static final Map<Key, Laid> KNOWN = new HashMap<>();

  static Laid laid(State s, int from, int n, int k) {
    if (n < 1 || n > 4 || from < 0 || from > s.pictures.size() - n) return null;
    if (k < 0 || k >= TREES.get(n).size()) return null;
    List<Picture> ps = List.copyOf(s.pictures.subList(from, from + n));
    if (n > 1) for (Picture p : ps) if (p.kind == 1) return null;
    return KNOWN.computeIfAbsent(new Key(s.w, s.h, ps, k), OracleTest::layOut);
  }

  static Laid layOut(Key key) {
    int w = key.ps.get(0).kind == 1 ? 2 * key.w : key.w;
    Tree t = TREES.get(key.ps.size()).get(key.k);
    Fraction shape = shapeOf(t, key.ps);
    Fraction zero = Fraction.of(0, 1);
    Fraction wide = Fraction.of(w, 1);
    Fraction high = Fraction.of(key.h, 1);
    Fraction[] box = wide.by(shape).atMost(high)
        ? new Fraction[] {zero, zero, wide, wide.by(shape)}
        : new Fraction[] {zero, zero, high.times(shape), high};
    List<int[]> edges = new ArrayList<>();
    place(t, key.ps, box, edges);
    long total = 0;
    long worths = 0;
    for (int[] e : edges) total += (long) (e[2] - e[0]) * (e[3] - e[1]);
    for (Picture p : key.ps) worths += p.worth;
    long off = 0;
    for (int i = 0; i < edges.size(); i++) {
      int[] e = edges.get(i);
      off += Math.abs((long) (e[2] - e[0]) * (e[3] - e[1]) * worths - total * key.ps.get(i).worth);
    }
    return new Laid(shape, edges.toArray(new int[0][]), Math.toIntExact((long) w * key.h - total + off / worths));
  }

  static int best(State s, int from, int n) {
    if (laid(s, from, n, 0) == null) return -1;
    int first = 0;
    for (int k = 1; k < TREES.get(n).size(); k++) {
      if (laid(s, from, n, k).cost < laid(s, from, n, first).cost) first = k;
    }
    return first;
  }

  static final Map<State, Book> BOOKS = new HashMap<>();
  static final Book NO_BOOK = new Book(-1, null, -1);

  /** Every way to part the pictures, in the order of the document. */
  static Book bookOf(State s) {
    Book known = BOOKS.get(s);
    if (known != null) return known;
    Book found = NO_BOOK;
    int[][] best = new int[s.pictures.size()][5];
    for (int from = 0; from < best.length; from++) for (int n = 1; n <= 4; n++) best[from][n] = best(s, from, n);
    int size = s.pictures.size();
    int books = 0;
    int least = -1;
    List<Page> first = null;
    // the breaks as bits, the earliest break the highest, most bits first: the lesser count comes first
    for (int breaks = size == 0 ? 0 : (1 << (size - 1)) - 1; breaks >= 0; breaks--) {
      List<Page> pages = pagesOf(s, breaks, best);
      if (pages == null) continue;
      int cost = 0;
      for (int p = 0; p < pages.size(); p++) {
        Page page = pages.get(p);
        if (page.count == 0) { cost += s.w * s.h; continue; }
        if (s.pictures.get(page.first).kind == 1 && p % 2 == 1) continue;
        cost += laid(s, page.first, page.count, page.tree).cost;
      }
      if (least == -1 || cost < least) { least = cost; books = 0; first = pages; }
      if (cost == least) books++;
    }
    if (first != null) found = new Book(least, first, books);
    BOOKS.put(s, found);
    return found;
  }

  static List<Page> pagesOf(State s, int breaks, int[][] best) {
    int size = s.pictures.size();
    List<Page> pages = new ArrayList<>();
    int from = 0;
    while (from < size) {
      int n = 1;
      while (from + n < size && (breaks >> (size - 1 - (from + n)) & 1) == 0) n++;
      if (n > 4 || best[from][n] == -1) return null;
      if (s.pictures.get(from).kind == 1) {
        if (pages.size() % 2 == 1) pages.add(new Page(0, -1, -1));
        pages.add(new Page(1, from, 0));
      }
      pages.add(new Page(n, from, best[from][n]));
      from += n;
      if (from < size) {
        Picture a = s.pictures.get(from - 1);
        Picture b = s.pictures.get(from);
        if (a.kind == 0 && b.kind == 0 && a.group != 0 && a.group == b.group) return null;
      }
    }
    return pages;
  }

  static final class Model {
    State now = new State(100, 100, List.of());
    State before = null;
    final Deque<State> kept = new ArrayDeque<>();

    boolean become(State next) {
      kept.addLast(now);
      if (kept.size() > 8) kept.removeFirst();
      before = now;
      now = next;
      return true;
    }
    static boolean in(int x, int a, int b) { return x >= a && x <= b; }
    boolean has(int i) { return in(i, 0, now.pictures.size() - 1); }
    static boolean can(int w, int h, int worth, int kind, int group) {
      return in(w, 1, 12) && in(h, 1, 12) && in(worth, 1, 9) && in(kind, 0, 1) && in(group, 0, 9);
    }
    boolean page(int w, int h) {
      return in(w, 20, 200) && in(h, 20, 200) && become(new State(w, h, now.pictures));
    }
    int picture(int w, int h, int worth, int kind, int group) {
      if (now.pictures.size() == 12 || !can(w, h, worth, kind, group)) return -1;
      List<Picture> ps = new ArrayList<>(now.pictures);
      ps.add(new Picture(w, h, worth, kind, group));
      become(new State(now.w, now.h, ps));
      return ps.size() - 1;
    }
    boolean change(int i, int w, int h, int worth, int kind, int group) {
      if (!has(i) || !can(w, h, worth, kind, group)) return false;
      List<Picture> ps = new ArrayList<>(now.pictures);
      ps.set(i, new Picture(w, h, worth, kind, group));
      return become(new State(now.w, now.h, ps));
    }
    boolean swap(int i, int j) {
      if (!has(i) || !has(j)) return false;
      List<Picture> ps = new ArrayList<>(now.pictures);
      ps.set(i, now.pictures.get(j));
      ps.set(j, now.pictures.get(i));
      return become(new State(now.w, now.h, ps));
    }
    boolean drop(int i) {
      if (!has(i)) return false;
      List<Picture> ps = new ArrayList<>(now.pictures);
      ps.remove(i);
      return become(new State(now.w, now.h, ps));
    }
    boolean undo() {
      if (kept.isEmpty()) return false;
      before = now;
      now = kept.removeLast();
      return true;
    }
    int about(int what) {
      if (what == 0) return now.pictures.size();
      if (what == 1) return now.w;
      if (what == 2) return now.h;
      for (int i = 0; i < now.pictures.size(); i++) {
        Picture p = now.pictures.get(i);
        int[] five = {p.w, p.h, p.worth, p.kind, p.group};
        for (int f = 0; f < 5; f++) if (what == 10 * i + 10 + f) return five[f];
      }
      return -1;
    }
    int trees(int n) { return in(n, 1, 4) ? TREES.get(n).size() : -1; }
    int tree(int n, int k, int i) {
      if (!in(n, 1, 4) || !in(k, 0, TREES.get(n).size() - 1)) return -1;
      Tree t = TREES.get(n).get(k);
      if (i == -1) return t.cut;
      return in(i, 0, t.parts.size() - 1) ? t.parts.get(i).size : -1;
    }
    long shape(int from, int n, int k, int what) {
      Laid l = laid(now, from, n, k);
      if (l == null || !in(what, 0, 1)) return -1;
      return (what == 0 ? l.shape.above : l.shape.below).longValueExact();
    }
    int side(int from, int n, int k, int i, int what) {
      Laid l = laid(now, from, n, k);
      return l == null || !in(i, 0, n - 1) || !in(what, 0, 3) ? -1 : l.edges[i][what];
    }
    int cost(int from, int n, int k) {
      Laid l = laid(now, from, n, k);
      return l == null ? -1 : l.cost;
    }
    int leaf(int p, int what) {
      Book b = bookOf(now);
      if (b == NO_BOOK || !in(p, 0, b.pages.size() - 1) || !in(what, 0, 2)) return -1;
      Page page = b.pages.get(p);
      return what == 0 ? page.count : what == 1 ? page.first : page.tree;
    }
    int pageOf(int i) {
      Book b = bookOf(now);
      if (b == NO_BOOK || !has(i)) return -1;
      for (int p = 0; p < b.pages.size(); p++) {
        Page page = b.pages.get(p);
        if (page.count > 0 && in(i, page.first, page.first + page.count - 1)) return p;
      }
      throw new IllegalStateException("picture on no page");
    }
    int pages() {
      Book b = bookOf(now);
      return b == NO_BOOK ? -1 : b.pages.size();
    }
    int changed() {
      if (before == null) return -1;
      Book a = bookOf(before);
      Book b = bookOf(now);
      if (a == NO_BOOK || b == NO_BOOK) return 0;
      int p = 0;
      while (p < a.pages.size() && p < b.pages.size() && a.pages.get(p).equals(b.pages.get(p))) p++;
      return p;
    }
  }

  static final int[] ODD = {Integer.MIN_VALUE, Integer.MAX_VALUE, Integer.MIN_VALUE + 1, Integer.MAX_VALUE - 3, -2, -1, 0, 13, 46341, 65536, 1 << 30};

  /** One of least .. most, now and then one just outside, or far outside. */
  static int some(Random r, int least, int most) {
    int dice = r.nextInt(60);
    if (dice == 0) return ODD[r.nextInt(ODD.length)];
    if (dice == 1) return least - 1;
    if (dice == 2) return most + 1;
    return least + r.nextInt(most - least + 1);
  }

  static int[] picture(Random r, int style) {
    int most = style == 0 ? 12 : style == 1 ? 2 : 1;
    int kind = r.nextInt(style == 3 ? 2 : 6) == 0 ? 1 : 0;
    int group = r.nextInt(3) == 0 ? 0 : 1 + r.nextInt(style == 2 ? 2 : 4);
    if (style == 1) { kind = 0; group = 0; }
    return new int[] {some(r, 1, most), some(r, 1, most), some(r, 1, style == 2 ? 1 : 9),
        r.nextInt(40) == 0 ? some(r, 0, 1) : kind, r.nextInt(40) == 0 ? some(r, 0, 9) : group};
  }

  static void due(String run, String call, long got, long want) {
    if (got == want) return;
    wrong++;
    if (wrong <= 40) System.out.println(run + ": " + call + " answered " + got + ", due is " + want);
  }

  static long bit(boolean b) { return b ? 1 : 0; }

  static void change(Random r, int style, AlbumSetter x, Model m, String run) {
    int n = m.now.pictures.size();
    int i = some(r, 0, Math.max(0, n - 1));
    int j = some(r, 0, Math.max(0, n - 1));
    int[] p = picture(r, style);
    int dice = r.nextInt(20);
    if (dice < 2) {
      int w = some(r, 20, 200);
      int h = r.nextInt(3) == 0 ? w : some(r, 20, 200);
      due(run, "page", bit(x.page(w, h)), bit(m.page(w, h)));
    } else if (dice < 10) {
      due(run, "picture", x.picture(p[0], p[1], p[2], p[3], p[4]), m.picture(p[0], p[1], p[2], p[3], p[4]));
    } else if (dice < 14) {
      due(run, "change", bit(x.change(i, p[0], p[1], p[2], p[3], p[4])), bit(m.change(i, p[0], p[1], p[2], p[3], p[4])));
    } else if (dice < 16) {
      due(run, "swap", bit(x.swap(i, j)), bit(m.swap(i, j)));
    } else if (dice < 17) {
      due(run, "drop", bit(x.drop(i)), bit(m.drop(i)));
    } else {
      int times = r.nextInt(8) == 0 ? 10 : 1;
      for (int t = 0; t < times; t++) due(run, "undo", bit(x.undo()), bit(m.undo()));
    }
  }

  static void ask(Random r, AlbumSetter x, Model m, String run) {
    int n = m.now.pictures.size();
    int size = some(r, 1, 4);
    int from = some(r, 0, Math.max(0, n - Math.max(1, Math.min(4, size))));
    int k = some(r, 0, size >= 1 && size <= 4 ? TREES.get(size).size() - 1 : 3);
    int i = some(r, 0, 3);
    int what = some(r, 0, 3);
    switch (r.nextInt(13)) {
      case 0 -> { int w = some(r, 0, 140); due(run, "about " + w, x.about(w), m.about(w)); }
      case 1 -> due(run, "trees " + size, x.trees(size), m.trees(size));
      case 2 -> due(run, "tree " + size + " " + k + " " + i, x.tree(size, k, i), m.tree(size, k, i));
      case 3 -> due(run, "shape " + from + " " + size + " " + k + " " + what, x.shape(from, size, k, what), m.shape(from, size, k, what));
      case 4, 5 -> due(run, "side " + from + " " + size + " " + k + " " + i + " " + what, x.side(from, size, k, i, what), m.side(from, size, k, i, what));
      case 6 -> due(run, "cost " + from + " " + size + " " + k, x.cost(from, size, k), m.cost(from, size, k));
      case 7 -> due(run, "best " + from + " " + size, x.best(from, size), best(m.now, from, size));
      case 8 -> due(run, "book", x.book(), bookOf(m.now).cost);
      case 9 -> { due(run, "pages", x.pages(), m.pages()); due(run, "books", x.books(), bookOf(m.now).books); }
      case 10 -> { int p = some(r, 0, Math.max(0, m.pages())); due(run, "leaf " + p + " " + i, x.leaf(p, i), m.leaf(p, i)); }
      case 11 -> { int p = some(r, 0, n); due(run, "pageOf " + p, x.pageOf(p), m.pageOf(p)); }
      default -> due(run, "changed", x.changed(), m.changed());
    }
  }

  static void askAll(AlbumSetter x, Model m, String run) {
    due(run, "book", x.book(), bookOf(m.now).cost);
    due(run, "books", x.books(), bookOf(m.now).books);
    due(run, "pages", x.pages(), m.pages());
    due(run, "changed", x.changed(), m.changed());
    for (int p = -1; p <= 25; p++) for (int what = -1; what <= 3; what++) due(run, "leaf " + p + " " + what, x.leaf(p, what), m.leaf(p, what));
    for (int i = -1; i <= 12; i++) due(run, "pageOf " + i, x.pageOf(i), m.pageOf(i));
    for (int what = -1; what < 150; what++) due(run, "about " + what, x.about(what), m.about(what));
    for (int from = 0; from < m.now.pictures.size(); from++) {
      for (int n = 1; n <= 4; n++) {
        due(run, "best " + from + " " + n, x.best(from, n), best(m.now, from, n));
        for (int k = 0; k < TREES.get(n).size(); k++) {
          due(run, "cost " + from + " " + n + " " + k, x.cost(from, n, k), m.cost(from, n, k));
          for (int what = 0; what < 2; what++) due(run, "shape " + from + " " + n + " " + k, x.shape(from, n, k, what), m.shape(from, n, k, what));
          for (int i = 0; i < n; i++) for (int what = 0; what < 4; what++) {
            due(run, "side " + from + " " + n + " " + k + " " + i + " " + what, x.side(from, n, k, i, what), m.side(from, n, k, i, what));
          }
        }
      }
    }
  }

  static void allTrees() {
    AlbumSetter x = new AlbumSetter();
    Model m = new Model();
    for (int n = -2; n <= 6; n++) {
      due("trees", "trees " + n, x.trees(n), m.trees(n));
      for (int k = -2; k <= 24; k++) for (int i = -3; i <= 5; i++) due("trees", "tree " + n + " " + k + " " + i, x.tree(n, k, i), m.tree(n, k, i));
    }
  }

  public static void main(String[] args) {
    int runs = args.length > 0 ? Integer.parseInt(args[0]) : 60;
    allTrees();
    for (int seed = 0; seed < runs; seed++) {
      Random r = new Random(seed);
      AlbumSetter x = new AlbumSetter();
      Model m = new Model();
      int style = r.nextInt(4);
      for (int call = 0; call < 480; call++) {
        String run = "seed " + seed + " call " + call;
        if (r.nextInt(4) == 0) change(r, style, x, m, run);
        else ask(r, x, m, run);
      }
      askAll(x, m, "seed " + seed + " at its end");
      KNOWN.clear();
      BOOKS.clear();
    }
    System.out.println(wrong == 0 ? "all answers of " + runs + " runs are as due" : wrong + " answers are not as due");
    if (wrong != 0) System.exit(1);
  }
}
