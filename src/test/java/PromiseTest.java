/** Each promise of the document in turn: ordinary inputs, the edges that it names, and wrong inputs. */
public final class PromiseTest {
  private static final int FAR = Integer.MAX_VALUE;
  private static final int LOW = Integer.MIN_VALUE;
  private static int wrong = 0;
  private static int promise = 0;
  private static AlbumSetter x = null;

  private static void begin(int number) {
    promise = number;
    x = new AlbumSetter();
  }

  private static void due(String call, long got, long want) {
    if (got != want) {
      wrong++;
      System.out.println("promise " + promise + ": " + call + " answered " + got + ", due is " + want);
    }
  }

  private static void due(String call, boolean got, boolean want) {
    due(call, got ? 1 : 0, want ? 1 : 0);
  }

  private static void squares(int count, int group) {
    for (int i = 0; i < count; i++) due("picture", x.picture(1, 1, 1, 0, group) >= 0, true);
  }

  private static void dueEdges(int n, int k, int i, int[] want) {
    for (int what = 0; what < 4; what++) due("side(0, " + n + ", " + k + ", " + i + ", " + what + ")", x.side(0, n, k, i, what), want[what]);
  }

  /** Three numbers a page: how many, the first, the tree. */
  private static void dueLeaves(int... want) {
    due("pages()", x.pages(), want.length / 3);
    for (int spot = 0; spot < want.length; spot++) {
      due("leaf(" + spot / 3 + ", " + spot % 3 + ")", x.leaf(spot / 3, spot % 3), want[spot]);
    }
    due("leaf behind the last", x.leaf(want.length / 3, 0), -1);
  }

  private static void duePicture(int i, int w, int h, int worth, int kind, int group) {
    int[] want = {w, h, worth, kind, group};
    for (int field = 0; field < 5; field++) due("about(" + (10 * i + 10 + field) + ")", x.about(10 * i + 10 + field), want[field]);
  }

  private static void newObject() {
    begin(1);
    due("NONE", AlbumSetter.NONE, -1);
    due("about(0)", x.about(0), 0);
    due("about(1)", x.about(1), 100);
    due("about(2)", x.about(2), 100);
    due("about(10)", x.about(10), -1);
    due("best(0, 1)", x.best(0, 1), -1);
  }

  private static void page() {
    begin(2);
    due("page(20, 200)", x.page(20, 200), true);
    due("page(200, 20)", x.page(200, 20), true);
    due("about(1)", x.about(1), 200);
    due("about(2)", x.about(2), 20);
    int[][] wrongs = {{19, 100}, {201, 100}, {100, 19}, {100, 201}, {0, 0}, {-20, 20}, {FAR, 100}, {100, LOW}};
    for (int[] w : wrongs) due("page(" + w[0] + ", " + w[1] + ")", x.page(w[0], w[1]), false);
    due("about(1)", x.about(1), 200);
    due("about(2)", x.about(2), 20);
    due("undo() of the second", x.undo(), true);
    due("undo() of the first", x.undo(), true);
    due("undo() of the wrong ones", x.undo(), false);
  }

  private static final int[][] WRONG_PICTURES = {
    {0, 1, 1, 0, 0}, {13, 1, 1, 0, 0}, {1, 0, 1, 0, 0}, {1, 13, 1, 0, 0}, {1, 1, 0, 0, 0}, {1, 1, 10, 0, 0},
    {1, 1, 1, -1, 0}, {1, 1, 1, 2, 0}, {1, 1, 1, 0, -1}, {1, 1, 1, 0, 10}, {FAR, 1, 1, 0, 0}, {1, LOW, 1, 0, 0},
    {1, 1, FAR, 0, 0}, {1, 1, 1, LOW, 0}, {1, 1, 1, 0, FAR}};

  private static void picture() {
    begin(3);
    for (int[] p : WRONG_PICTURES) due("a wrong picture", x.picture(p[0], p[1], p[2], p[3], p[4]), -1);
    due("about(0)", x.about(0), 0);
    due("changed()", x.changed(), -1);
    due("the largest", x.picture(12, 12, 9, 1, 9), 0);
    due("the least", x.picture(1, 1, 1, 0, 0), 1);
    duePicture(0, 12, 12, 9, 1, 9);
    duePicture(1, 1, 1, 1, 0, 0);
    for (int i = 2; i < 12; i++) due("picture " + i, x.picture(i, 13 - i, 2, 0, 3), i);
    due("a thirteenth", x.picture(1, 1, 1, 0, 0), -1);
    due("about(0)", x.about(0), 12);
    duePicture(11, 11, 2, 2, 0, 3);
    due("about(130)", x.about(130), -1);
  }

  private static void change() {
    begin(4);
    squares(3, 0);
    due("change(1, ..)", x.change(1, 2, 3, 4, 1, 5), true);
    duePicture(0, 1, 1, 1, 0, 0);
    duePicture(1, 2, 3, 4, 1, 5);
    duePicture(2, 1, 1, 1, 0, 0);
    for (int[] p : WRONG_PICTURES) due("a wrong change", x.change(1, p[0], p[1], p[2], p[3], p[4]), false);
    for (int i : new int[] {-1, 3, FAR, LOW}) due("change(" + i + ")", x.change(i, 1, 1, 1, 0, 0), false);
    duePicture(1, 2, 3, 4, 1, 5);
    due("about(0)", x.about(0), 3);
    due("undo()", x.undo(), true);
    duePicture(1, 1, 1, 1, 0, 0);
    due("a change to the same is done", x.change(0, 1, 1, 1, 0, 0), true);
  }

  private static void swap() {
    begin(5);
    x.picture(1, 2, 3, 0, 4);
    x.picture(5, 6, 7, 1, 8);
    x.picture(9, 10, 2, 0, 0);
    due("swap(0, 2)", x.swap(0, 2), true);
    duePicture(0, 9, 10, 2, 0, 0);
    duePicture(1, 5, 6, 7, 1, 8);
    duePicture(2, 1, 2, 3, 0, 4);
    due("swap(1, 0)", x.swap(1, 0), true);
    duePicture(0, 5, 6, 7, 1, 8);
    duePicture(1, 9, 10, 2, 0, 0);
    for (int i : new int[] {-1, 3, FAR, LOW}) {
      due("swap(0, " + i + ")", x.swap(0, i), false);
      due("swap(" + i + ", 0)", x.swap(i, 0), false);
      due("swap(" + i + ", itself)", x.swap(i, i), false);
    }
    duePicture(0, 5, 6, 7, 1, 8);
    due("swap(1, 1)", x.swap(1, 1), true);
    due("undo() of swap(1, 1)", x.undo(), true);
    duePicture(1, 9, 10, 2, 0, 0);
    due("undo() of swap(1, 0)", x.undo(), true);
    duePicture(1, 5, 6, 7, 1, 8);
  }

  private static void drop() {
    begin(6);
    due("drop(0) of none", x.drop(0), false);
    for (int i = 1; i <= 12; i++) x.picture(i, 1, 1, 0, 0);
    due("drop(3)", x.drop(3), true);
    due("about(0)", x.about(0), 11);
    int[] left = {1, 2, 3, 5, 6, 7, 8, 9, 10, 11, 12};
    for (int i = 0; i < left.length; i++) due("about(" + (10 * i + 10) + ")", x.about(10 * i + 10), left[i]);
    due("about(120)", x.about(120), -1);
    due("drop(10), the last", x.drop(10), true);
    due("drop(0), the first", x.drop(0), true);
    due("about(10)", x.about(10), 2);
    due("about(90)", x.about(90), 11);
    for (int i : new int[] {9, -1, FAR, LOW}) due("drop(" + i + ")", x.drop(i), false);
    due("about(0)", x.about(0), 9);
    due("there is room again", x.picture(4, 4, 4, 0, 4), 9);
  }

  private static void about() {
    begin(7);
    x.page(30, 40);
    x.picture(2, 3, 4, 1, 5);
    x.picture(6, 7, 8, 0, 9);
    due("about(0)", x.about(0), 2);
    due("about(1)", x.about(1), 30);
    due("about(2)", x.about(2), 40);
    duePicture(0, 2, 3, 4, 1, 5);
    duePicture(1, 6, 7, 8, 0, 9);
    for (int what : new int[] {-1, -10, -11, 3, 9, 15, 19, 25, 29, 30, 34, 130, FAR, LOW}) due("about(" + what + ")", x.about(what), -1);
  }

  private static void trees() {
    begin(8);
    int[] want = {-1, 1, 2, 6, 22, -1};
    for (int n = 0; n < want.length; n++) due("trees(" + n + ")", x.trees(n), want[n]);
    for (int n : new int[] {-1, FAR, LOW}) due("trees(" + n + ")", x.trees(n), -1);
  }

  private static void tree() {
    begin(9);
    due("tree(1, 0, -1)", x.tree(1, 0, -1), 0);
    due("tree(1, 0, 0)", x.tree(1, 0, 0), -1);
    int[][] three = {{1, 1, 1}, {1, 2}, {2, 1}};
    int[][] four = {{1, 1, 1, 1}, {1, 1, 2}, {1, 2, 1}, {1, 3}, {1, 3}, {1, 3}, {2, 1, 1}, {2, 2}, {3, 1}, {3, 1}, {3, 1}};
    dueTrees(2, new int[][] {{1, 1}});
    dueTrees(3, three);
    dueTrees(4, four);
    int[][] wrongs = {{0, 0, -1}, {5, 0, -1}, {LOW, 0, -1}, {FAR, 0, -1}, {1, 1, -1}, {2, 2, -1}, {3, 6, -1}, {4, 22, -1},
      {4, -1, -1}, {4, LOW, 0}, {4, FAR, 0}, {4, 0, -2}, {4, 0, 4}, {4, 0, LOW}, {4, 0, FAR}, {4, 3, 2}, {3, 0, 3}};
    for (int[] w : wrongs) due("tree(" + w[0] + ", " + w[1] + ", " + w[2] + ")", x.tree(w[0], w[1], w[2]), -1);
  }

  private static void dueTrees(int n, int[][] parts) {
    for (int k = 0; k < 2 * parts.length; k++) {
      due("the cut of " + k, x.tree(n, k, -1), k < parts.length ? 1 : 2);
      int[] want = parts[k % parts.length];
      for (int i = 0; i < want.length; i++) due("tree(" + n + ", " + k + ", " + i + ")", x.tree(n, k, i), want[i]);
      due("behind the last part of " + k, x.tree(n, k, want.length), -1);
    }
  }

  private static void shape() {
    begin(10);
    x.picture(2, 3, 1, 0, 0);
    x.picture(5, 4, 1, 0, 0);
    x.picture(6, 4, 1, 0, 0);
    x.picture(7, 1, 1, 0, 0);
    x.picture(8, 6, 1, 1, 0);
    dueShape(0, 1, 0, 2, 3);
    dueShape(2, 1, 0, 3, 2);
    dueShape(4, 1, 0, 4, 3);
    dueShape(0, 2, 0, 23, 12);
    dueShape(0, 2, 1, 10, 23);
    // across: 2/3, and 5/4 above 3/2: 15/22
    dueShape(0, 3, 1, 89, 66);
    // down: 2/3 and 5/4 side by side, above 3/2
    dueShape(0, 3, 5, 69, 82);
    dueShape(0, 4, 0, 125, 12);
    // across, 13, whose three are down, 12, whose two are across: 5/4 above 17/2 is 85/78
    dueShape(0, 4, 4, 137, 78);
    // the other two: 111 down, 5/4, 3/2, 7: 105/169; 21 down, 11/4 above 7: 77/39
    dueShape(0, 4, 3, 653, 507);
    dueShape(0, 4, 5, 103, 39);
    int[][] wrongs = {{0, 1, 1, 0}, {0, 1, -1, 0}, {0, 1, 0, 2}, {0, 1, 0, -1}, {3, 2, 0, 0}, {1, 4, 0, 0}, {4, 2, 0, 0}, {5, 1, 0, 0},
      {-1, 1, 0, 0}, {0, 0, 0, 0}, {0, 5, 0, 0}, {0, 4, 22, 0}, {FAR, 1, 0, 0}, {LOW, 1, 0, 0}, {0, FAR, 0, 0}, {0, LOW, 0, 0},
      {FAR, FAR, FAR, FAR}, {LOW, LOW, LOW, LOW}, {0, 2, FAR, 0}, {0, 2, LOW, 0}, {0, 2, 0, FAR}, {0, 2, 0, LOW}};
    for (int[] w : wrongs) due("shape(" + w[0] + ", " + w[1] + ", " + w[2] + ", " + w[3] + ")", x.shape(w[0], w[1], w[2], w[3]), -1);
  }

  private static void dueShape(int from, int n, int k, long above, long below) {
    due("shape(" + from + ", " + n + ", " + k + ", 0)", x.shape(from, n, k, 0), above);
    due("shape(" + from + ", " + n + ", " + k + ", 1)", x.shape(from, n, k, 1), below);
  }

  private static void side() {
    begin(11);
    x.page(25, 60);
    squares(2, 0);
    // halves upwards, and the edge in common is laid but once
    dueEdges(2, 0, 0, new int[] {0, 0, 13, 13});
    dueEdges(2, 0, 1, new int[] {13, 0, 25, 13});
    dueEdges(2, 1, 1, new int[] {0, 25, 25, 50});
    x.page(60, 25);
    dueEdges(2, 1, 0, new int[] {0, 0, 13, 13});
    dueEdges(2, 1, 1, new int[] {0, 13, 13, 25});
    x.change(0, 1, 12, 1, 0, 0);
    x.change(1, 12, 1, 1, 0, 0);
    dueEdges(2, 0, 0, new int[] {0, 0, 0, 5});
    x.page(100, 50);
    x.change(0, 2, 1, 1, 0, 0);
    dueEdges(1, 0, 0, new int[] {0, 0, 100, 50});
    x.change(0, 2, 1, 1, 1, 0);
    due("a spread is twice as wide, and as high", x.side(0, 1, 0, 0, 2), 100);
    x.change(0, 8, 1, 1, 1, 0);
    dueEdges(1, 0, 0, new int[] {0, 0, 200, 25});
    int[][] wrongs = {{0, 1, 0, 1, 0}, {0, 1, 0, -1, 0}, {0, 1, 0, 0, 4}, {0, 1, 0, 0, -1}, {0, 1, 1, 0, 0}, {0, 2, 0, 0, 0},
      {2, 1, 0, 0, 0}, {-1, 1, 0, 0, 0}, {0, 0, 0, 0, 0}, {0, 5, 0, 0, 0}, {0, LOW, 0, 0, 0}, {0, 1, 0, FAR, 0}, {0, 1, 0, LOW, 0},
      {0, 1, 0, 0, FAR}, {0, 1, 0, 0, LOW}, {FAR, FAR, FAR, FAR, FAR}, {LOW, LOW, LOW, LOW, LOW}};
    for (int[] w : wrongs) due("side(" + w[0] + ", " + w[1] + ", " + w[2] + ", " + w[3] + ", " + w[4] + ")", x.side(w[0], w[1], w[2], w[3], w[4]), -1);
    deepSides();
  }

  /** Tree 4 of four: the first; beside it the second above the third and fourth, side by side. */
  private static void deepSides() {
    x = new AlbumSetter();
    x.page(200, 150);
    x.picture(1, 2, 1, 0, 0);
    x.picture(2, 1, 1, 0, 0);
    x.picture(3, 1, 1, 0, 0);
    x.picture(1, 1, 1, 0, 0);
    // the part of three is 2 wide and 1 + 1/2 high, 4/3; the whole 11/6, 200 wide and 109.09 high
    dueEdges(4, 4, 0, new int[] {0, 0, 55, 109});
    dueEdges(4, 4, 1, new int[] {55, 0, 200, 73});
    dueEdges(4, 4, 2, new int[] {55, 73, 164, 109});
    dueEdges(4, 4, 3, new int[] {164, 73, 200, 109});
    // the same tree the other way (15): 1/2 beside 1/4 is 3/4, below 1/2 that is 3/10, 45 wide and 150 high
    x.change(1, 1, 2, 1, 0, 0);
    x.change(2, 1, 3, 1, 0, 0);
    dueEdges(4, 15, 0, new int[] {0, 0, 45, 90});
    dueEdges(4, 15, 1, new int[] {0, 90, 30, 150});
    dueEdges(4, 15, 2, new int[] {30, 90, 45, 135});
    dueEdges(4, 15, 3, new int[] {30, 135, 45, 150});
  }

  private static void cost() {
    begin(12);
    x.picture(1, 1, 1, 0, 0);
    x.picture(2, 1, 1, 0, 0);
    due("cost(1, 1, 0)", x.cost(1, 1, 0), 5000);
    due("cost(0, 2, 0)", x.cost(0, 2, 0), 7822);
    due("cost(0, 2, 1)", x.cost(0, 2, 1), 5578);
    // areas 67 67 and 67 33: 4489 and 2211, T 6700, V 3: 3300, and 67 more than worth 2 is due, twice by 3
    x.change(0, 1, 1, 2, 0, 0);
    due("divided downwards", x.cost(0, 2, 1), 3300 + (67 + 67) / 3);
    x.change(1, 8, 1, 9, 1, 0);
    due("a wide one", x.cost(1, 1, 0), 20000 - 200 * 25);
    due("a wide one among more", x.cost(0, 2, 0), -1);
    int[][] wrongs = {{0, 1, 1}, {0, 1, -1}, {2, 1, 0}, {-1, 1, 0}, {0, 0, 0}, {0, 5, 0}, {FAR, FAR, FAR}, {LOW, LOW, LOW}, {1, FAR, 0}};
    for (int[] w : wrongs) due("cost(" + w[0] + ", " + w[1] + ", " + w[2] + ")", x.cost(w[0], w[1], w[2]), -1);
  }

  private static void best() {
    begin(13);
    squares(4, 0);
    due("2 by 2 across and down cost the same", x.best(0, 4), 7);
    due("cost(0, 4, 7)", x.cost(0, 4, 7), 0);
    due("cost(0, 4, 18)", x.cost(0, 4, 18), 0);
    due("across and down cost the same", x.best(1, 2), 0);
    x.page(100, 200);
    due("a high page", x.best(2, 2), 1);
    due("best(3, 1)", x.best(3, 1), 0);
    x.picture(1, 1, 1, 1, 0);
    due("best of a wide one", x.best(4, 1), 0);
    int[][] wrongs = {{3, 2}, {1, 4}, {4, 2}, {5, 1}, {-1, 1}, {0, 0}, {0, 5}, {0, -1}, {FAR, 1}, {LOW, 1}, {0, FAR}, {0, LOW}, {FAR, FAR}, {LOW, LOW}};
    for (int[] w : wrongs) due("best(" + w[0] + ", " + w[1] + ")", x.best(w[0], w[1]), -1);
  }

  private static void book() {
    begin(14);
    due("book() of none", x.book(), 0);
    squares(1, 0);
    due("book() of one", x.book(), 0);
    x.picture(2, 1, 1, 0, 0);
    due("book() of two", x.book(), 5000);
    x.picture(4, 2, 1, 1, 0);
    due("a wide one without a gap", x.book(), 5000);
    x.drop(0);
    due("an empty page costs W H", x.book(), 15000);
    x.page(50, 40);
    // 2 by 1 is 50 by 25, the empty page, and the spread's 80 by 40 of 100 by 40
    due("on another page", x.book(), 750 + 2000 + 800);
    begin(14);
    squares(5, 7);
    due("five of a group", x.book(), -1);
    x.change(4, 1, 1, 1, 0, 0);
    due("four of a group", x.book(), 0);
    x.change(4, 1, 1, 1, 1, 7);
    due("a wide one of the group behind four", x.book(), 10000 + 10000);
  }

  private static void pages() {
    begin(15);
    due("pages() of none", x.pages(), 0);
    for (int i = 0; i < 6; i++) {
      x.picture(1, 1, 1, 0, 0);
      x.picture(1, 1, 1, 1, 0);
    }
    due("the most pages", x.pages(), 24);
    for (int i = 0; i < 12; i++) x.change(i, 1, 1, 1, 1, 0);
    due("all wide", x.pages(), 24);
    for (int i = 0; i < 12; i++) x.change(i, 1, 1, 1, 0, i < 4 ? 1 : i < 8 ? 2 : 3);
    due("three groups", x.pages(), 3);
    x.change(8, 1, 1, 1, 0, 2);
    due("five of a group", x.pages(), -1);
  }

  private static void leaf() {
    begin(16);
    due("leaf(0, 0) of none", x.leaf(0, 0), -1);
    squares(2, 3);
    x.picture(2, 1, 1, 1, 3);
    squares(3, 3);
    // three squares side by side cost 6744, and so they do one below the other; one beside two 7811
    dueLeaves(2, 0, 0, 0, -1, -1, 1, 2, 0, 1, 2, 0, 3, 3, 0);
    for (int[] w : new int[][] {{0, 3}, {0, -1}, {-1, 0}, {5, 0}, {FAR, 0}, {LOW, 0}, {0, FAR}, {0, LOW}}) {
      due("leaf(" + w[0] + ", " + w[1] + ")", x.leaf(w[0], w[1]), -1);
    }
    x.change(2, 1, 1, 1, 0, 3);
    due("leaf of no book", x.leaf(0, 0), -1);
    begin(16);
    squares(4, 0);
    dueLeaves(1, 0, 0, 1, 1, 0, 1, 2, 0, 1, 3, 0);
    x.picture(1, 1, 1, 1, 0);
    dueLeaves(1, 0, 0, 1, 1, 0, 1, 2, 0, 1, 3, 0, 1, 4, 0, 1, 4, 0);
    x.drop(3);
    // three pages would leave one empty at 10000; two squares on one cost 5000, and 12 comes ahead of 21
    dueLeaves(1, 0, 0, 2, 1, 0, 1, 3, 0, 1, 3, 0);
    due("books()", x.books(), 2);
  }

  private static void pageOf() {
    begin(17);
    due("pageOf(0) of none", x.pageOf(0), -1);
    squares(2, 3);
    x.picture(2, 1, 1, 1, 3);
    squares(1, 0);
    int[] want = {0, 0, 2, 4};
    for (int i = 0; i < want.length; i++) due("pageOf(" + i + ")", x.pageOf(i), want[i]);
    for (int i : new int[] {-1, 4, 12, FAR, LOW}) due("pageOf(" + i + ")", x.pageOf(i), -1);
    begin(17);
    squares(5, 3);
    due("pageOf of no book", x.pageOf(0), -1);
  }

  private static void books() {
    begin(18);
    due("books() of none", x.books(), 1);
    squares(4, 0);
    // one each on four pages, or all on one, 2 by 2
    due("books()", x.books(), 2);
    dueLeaves(1, 0, 0, 1, 1, 0, 1, 2, 0, 1, 3, 0);
    squares(1, 0);
    // 11111, 14, 41
    due("books()", x.books(), 3);
    squares(3, 0);
    // n squares have b(n) = b(n - 1) + b(n - 4): 1 1 1 1 2 3 4 5 7
    due("books()", x.books(), 7);
    x.page(20, 200);
    due("one book alone, by fours", x.books(), 1);
    dueLeaves(4, 0, 11, 4, 4, 11);
    begin(18);
    squares(5, 1);
    due("books() of no book", x.books(), -1);
  }

  private static void changed() {
    begin(19);
    due("ahead of any change", x.changed(), -1);
    x.picture(0, 0, 0, 0, 0);
    x.page(0, 0);
    due("undo()", x.undo(), false);
    due("behind calls that were not done", x.changed(), -1);
    due("page(50, 50)", x.page(50, 50), true);
    due("the same book of no pages", x.changed(), 0);
    squares(4, 0);
    due("a page more", x.changed(), 3);
    x.change(1, 1, 1, 9, 0, 4);
    due("the same book", x.changed(), 4);
    due("swap(2, 2)", x.swap(2, 2), true);
    due("the same book", x.changed(), 4);
    x.drop(3);
    due("a page less", x.changed(), 3);
    x.change(2, 1, 1, 1, 0, 4);
    due("two together", x.changed(), 1);
    x.undo();
    due("undo() is a change", x.changed(), 1);
    x.change(7, 1, 1, 1, 0, 0);
    due("a call that was not done", x.changed(), 1);
    due("changed() again", x.changed(), 1);
    begin(19);
    squares(5, 6);
    due("the later one is none", x.changed(), 0);
    x.page(50, 50);
    due("both are none", x.changed(), 0);
    x.drop(0);
    due("the former is none", x.changed(), 0);
    x.page(60, 60);
    due("the same again", x.changed(), 1);
    begin(19);
    squares(2, 0);
    x.picture(2, 1, 1, 1, 0);
    due("a spread more", x.changed(), 2);
    x.drop(1);
    due("an empty page in a picture's place", x.changed(), 1);
  }

  private static void undo() {
    begin(20);
    due("undo() of nothing", x.undo(), false);
    x.page(30, 40);
    x.picture(1, 2, 3, 0, 4);
    x.picture(5, 6, 7, 1, 8);
    x.change(0, 9, 9, 9, 0, 9);
    x.swap(0, 1);
    x.drop(0);
    due("about(0)", x.about(0), 1);
    due("undo() of drop", x.undo(), true);
    duePicture(0, 5, 6, 7, 1, 8);
    duePicture(1, 9, 9, 9, 0, 9);
    due("undo() of swap", x.undo(), true);
    duePicture(0, 9, 9, 9, 0, 9);
    due("undo() of change", x.undo(), true);
    duePicture(0, 1, 2, 3, 0, 4);
    due("undo() of picture", x.undo(), true);
    due("about(0)", x.about(0), 1);
    due("undo() of picture", x.undo(), true);
    due("about(0)", x.about(0), 0);
    due("undo() of page", x.undo(), true);
    due("about(1)", x.about(1), 100);
    due("about(2)", x.about(2), 100);
    due("undo() of nothing", x.undo(), false);
    eightAreKept();
  }

  private static void eightAreKept() {
    begin(20);
    for (int w = 20; w < 32; w++) x.page(w, w);
    x.page(0, 0);
    for (int i = 0; i < 8; i++) due("undo()", x.undo(), true);
    due("about(1)", x.about(1), 23);
    due("a ninth", x.undo(), false);
    due("about(1)", x.about(1), 23);
    x.page(50, 50);
    x.page(60, 60);
    due("undo()", x.undo(), true);
    due("about(1)", x.about(1), 50);
    x.page(70, 70);
    due("undo()", x.undo(), true);
    due("about(1)", x.about(1), 50);
    due("undo()", x.undo(), true);
    due("about(1)", x.about(1), 23);
    due("undo()", x.undo(), false);
  }

  public static void main(String[] args) {
    newObject();
    page();
    picture();
    change();
    swap();
    drop();
    about();
    trees();
    tree();
    shape();
    side();
    cost();
    best();
    book();
    pages();
    leaf();
    pageOf();
    books();
    changed();
    undo();
    System.out.println(wrong == 0 ? "all promises hold" : wrong + " answers are not as due");
    if (wrong != 0) System.exit(1);
  }
}
