/** The sentences of promises 8 to 13. */
final class TreeSentences extends Sentences {
  /** Three plain ones, a wide one, five plain ones: from, n that can't be. */
  private static final int[][] NOT_THERE = {
    {-1, 1}, {-1, 2}, {9, 1}, {10, 1}, {8, 2}, {7, 3}, {6, 4}, {9, 0}, {0, 0}, {0, -1}, {0, 5}, {4, 5},
    {FAR, 1}, {LOW, 1}, {0, FAR}, {0, LOW}, {FAR, FAR}, {LOW, LOW}, {FAR, 4}, {LOW, 4}, {LOW, FAR}, {1, FAR}, {FAR, LOW}};
  private static final int[][] WITH_A_WIDE_ONE = {{3, 2}, {2, 2}, {3, 3}, {2, 3}, {1, 3}, {3, 4}, {2, 4}, {1, 4}, {0, 4}};
  private static final int[][] CAN_BE = {{0, 1}, {0, 2}, {0, 3}, {3, 1}, {4, 4}, {5, 4}, {6, 3}, {7, 2}, {8, 1}};
  private static final int[] MANY = {0, 1, 2, 6, 22};

  static void all() {
    trees();
    tree();
    treeOfParts();
    treeRefused();
    shape();
    shapeWithoutDivisor();
    shapeRefused();
    side();
    sideRefused();
    cost();
    costRefused();
    best();
    bestOfLike();
    bestRefused();
  }

  private static void threeWideFive() {
    plain(1, 1, 2, 1, 1, 2);
    wide(3, 2);
    plain(1, 1, 2, 1, 1, 2, 3, 1, 1, 3);
  }

  private static void trees() {
    sentence("How many TREES n pictures have; NONE if n is not 1 .. 4.");
    for (int n = 1; n <= 4; n++) due("trees(" + n + ")", x.trees(n), MANY[n]);
    for (int n : new int[] {0, 5, -1, 6, 12, FAR, LOW}) due("trees(" + n + ")", x.trees(n), -1);
  }

  private static void tree() {
    sentence("i -1: 0 of one picture, 1 ACROSS, 2 DOWN.");
    due("of one", x.tree(1, 0, -1), 0);
    for (int n = 2; n <= 4; n++) {
      due("the first of " + n, x.tree(n, 0, -1), 1);
      due("the last across of " + n, x.tree(n, MANY[n] / 2 - 1, -1), 1);
      due("the first down of " + n, x.tree(n, MANY[n] / 2, -1), 2);
      due("the last of " + n, x.tree(n, MANY[n] - 1, -1), 2);
    }
  }

  private static void treeOfParts() {
    sentence("TREE k of n pictures, part i (from 0 on) of its CUT: how many pictures it has;");
    due("tree(4, 0, 0)", x.tree(4, 0, 0), 1);
    due("tree(4, 0, 3)", x.tree(4, 0, 3), 1);
    due("tree(4, 3, 0)", x.tree(4, 3, 0), 1);
    due("tree(4, 3, 1)", x.tree(4, 3, 1), 3);
    due("tree(4, 21, 0)", x.tree(4, 21, 0), 3);
    due("tree(4, 21, 1)", x.tree(4, 21, 1), 1);
    due("tree(2, 1, 1)", x.tree(2, 1, 1), 1);
  }

  private static void treeRefused() {
    sentence("2 DOWN. NONE if there is none such.");
    for (int n : new int[] {0, 5, -1, FAR, LOW}) for (int i = -1; i < 2; i++) due("tree(" + n + ", 0, " + i + ")", x.tree(n, 0, i), -1);
    for (int n = 1; n <= 4; n++) {
      for (int k : new int[] {-1, MANY[n], MANY[n] + 1, 22, FAR, LOW}) {
        for (int i = -1; i < 2; i++) due("tree(" + n + ", " + k + ", " + i + ")", x.tree(n, k, i), -1);
      }
      for (int i : new int[] {-2, -3, 4, 5, FAR, LOW}) due("tree(" + n + ", 0, " + i + ")", x.tree(n, 0, i), -1);
    }
    due("one picture has no part", x.tree(1, 0, 0), -1);
    due("tree(2, 0, 2)", x.tree(2, 0, 2), -1);
    due("tree(3, 1, 2)", x.tree(3, 1, 2), -1);
    due("tree(3, 0, 3)", x.tree(3, 0, 3), -1);
    due("tree(4, 1, 3)", x.tree(4, 1, 3), -1);
    due("tree(4, 10, 2)", x.tree(4, 10, 2), -1);
    due("tree(4, 21, 2)", x.tree(4, 21, 2), -1);
  }

  private static void shape() {
    sentence("The SHAPE of TREE k of the n pictures from one on: what 0 above, 1 below");
    plain(1, 1, 2, 3, 5, 7);
    dueShape(0, 1, 0, 1, 1);
    dueShape(2, 1, 0, 5, 7);
    dueShape(1, 2, 0, 29, 21);
    dueShape(1, 2, 1, 10, 29);
    // the largest numbers that four pictures come to
    x = new AlbumSetter();
    plain(11, 12, 12, 11, 11, 12, 12, 11);
    dueShape(0, 4, 5, 87649, 53988);
    x = new AlbumSetter();
    plain(12, 11, 11, 12, 11, 10, 12, 11);
    dueShape(0, 4, 15, 50820, 81289);
  }

  private static void shapeWithoutDivisor() {
    sentence("(without a common divisor).");
    plain(12, 12, 12, 8, 8, 12, 6, 6);
    dueShape(0, 1, 0, 1, 1);
    dueShape(1, 1, 0, 3, 2);
    dueShape(2, 1, 0, 2, 3);
    dueShape(0, 2, 0, 5, 2);
    dueShape(1, 2, 0, 13, 6);
    dueShape(1, 2, 1, 6, 13);
    dueShape(0, 4, 0, 25, 6);
    dueShape(0, 4, 11, 6, 25);
    x = new AlbumSetter();
    plain(12, 12, 12, 12, 12, 12, 12, 12);
    dueShape(0, 4, 7, 1, 1);
    dueShape(0, 4, 0, 4, 1);
    dueShape(0, 4, 11, 1, 4);
    x.change(0, 12, 6, 1, 1, 0);
    dueShape(0, 1, 0, 2, 1);
  }

  private static void shapeRefused() {
    sentence("NONE if one can't be (they are not there, one is WIDE, but for n 1).");
    due("of no pictures", x.shape(0, 1, 0, 0), -1);
    threeWideFive();
    for (int[] c : CAN_BE) due("shape(" + c[0] + ", " + c[1] + ", 0, 0)", x.shape(c[0], c[1], 0, 0) > 0, true);
    for (int[] w : NOT_THERE) due("shape(" + w[0] + ", " + w[1] + ", 0, 0)", x.shape(w[0], w[1], 0, 0), -1);
    for (int[] w : WITH_A_WIDE_ONE) due("shape(" + w[0] + ", " + w[1] + ", 0, 1)", x.shape(w[0], w[1], 0, 1), -1);
    dueShape(3, 1, 0, 3, 2);
    for (int what : new int[] {-1, 2, FAR, LOW}) due("what " + what, x.shape(0, 1, 0, what), -1);
    for (int n = 1; n <= 4; n++) {
      due("the last tree of " + n, x.shape(4, n, MANY[n] - 1, 0) > 0, true);
      for (int k : new int[] {-1, MANY[n], FAR, LOW}) due("shape(4, " + n + ", " + k + ", 0)", x.shape(4, n, k, 0), -1);
    }
  }

  private static void side() {
    sentence("There the i-th picture's LEFT (what 0), TOP (1), RIGHT (2), LOW (3).");
    x.page(90, 60);
    plain(5, 5, 1, 1, 1, 2, 3, 1);
    // 1 to 3 side by side: 9/2, 90 by 20
    dueSides(1, 3, 0, 0, 0, 20, 20, 20, 0, 30, 20, 30, 0, 90, 20);
    // 1 beside 1/2 above 3: 3/7 beside it, 10/7, 85 5/7 by 60
    dueSides(1, 3, 1, 0, 0, 60, 60, 60, 0, 86, 51, 60, 51, 86, 60);
  }

  private static void sideRefused() {
    sentence("LOW (3). NONE likewise.");
    due("of no pictures", x.side(0, 1, 0, 0, 0), -1);
    threeWideFive();
    for (int[] c : CAN_BE) due("side(" + c[0] + ", " + c[1] + ", 0, 0, 2)", x.side(c[0], c[1], 0, 0, 2) > 0, true);
    for (int[] w : NOT_THERE) due("side(" + w[0] + ", " + w[1] + ", 0, 0, 0)", x.side(w[0], w[1], 0, 0, 0), -1);
    for (int[] w : WITH_A_WIDE_ONE) due("side(" + w[0] + ", " + w[1] + ", 0, 0, 0)", x.side(w[0], w[1], 0, 0, 0), -1);
    for (int n = 1; n <= 4; n++) {
      for (int what = 0; what < 4; what++) due("the last's", x.side(4, n, 0, n - 1, what) >= 0, true);
      for (int i : new int[] {-1, n, 4, FAR, LOW}) for (int what = 0; what < 4; what++) due("side(4, " + n + ", 0, " + i + ", " + what + ")", x.side(4, n, 0, i, what), -1);
      for (int what : new int[] {-1, 4, FAR, LOW}) due("side(4, " + n + ", 0, 0, " + what + ")", x.side(4, n, 0, 0, what), -1);
      for (int k : new int[] {-1, MANY[n], FAR, LOW}) due("side(4, " + n + ", " + k + ", 0, 0)", x.side(4, n, k, 0, 0), -1);
    }
    dueSides(3, 1, 0, 0, 0, 150, 100);
  }

  private static void cost() {
    sentence("There the COST;");
    plain(5, 1, 1, 1, 2, 1);
    due("from 1 on", x.cost(1, 2, 1), 5578);
    due("from 1 on", x.cost(1, 1, 0), 0);
    due("from 2 on", x.cost(2, 1, 0), 5000);
    due("from 0 on", x.cost(0, 1, 0), 8000);
  }

  private static void costRefused() {
    sentence("There the COST; NONE likewise.");
    due("of no pictures", x.cost(0, 1, 0), -1);
    threeWideFive();
    for (int[] c : CAN_BE) due("cost(" + c[0] + ", " + c[1] + ", 0)", x.cost(c[0], c[1], 0) >= 0, true);
    for (int[] w : NOT_THERE) due("cost(" + w[0] + ", " + w[1] + ", 0)", x.cost(w[0], w[1], 0), -1);
    for (int[] w : WITH_A_WIDE_ONE) due("cost(" + w[0] + ", " + w[1] + ", 0)", x.cost(w[0], w[1], 0), -1);
    due("of the wide one", x.cost(3, 1, 0), 20000 - 150 * 100);
    for (int n = 1; n <= 4; n++) {
      due("the last tree of " + n, x.cost(4, n, MANY[n] - 1) >= 0, true);
      for (int k : new int[] {-1, MANY[n], FAR, LOW}) due("cost(4, " + n + ", " + k + ")", x.cost(4, n, k), -1);
    }
  }

  private static void best() {
    sentence("The first TREE with the least COST there;");
    threeWideFive();
    for (int[] c : CAN_BE) {
      int least = FAR;
      int first = -1;
      for (int k = 0; k < MANY[c[1]]; k++) {
        if (x.cost(c[0], c[1], k) < least) {
          least = x.cost(c[0], c[1], k);
          first = k;
        }
      }
      due("best(" + c[0] + ", " + c[1] + ")", x.best(c[0], c[1]), first);
    }
    x = new AlbumSetter();
    x.page(20, 80);
    squares(4, 0);
    due("the first of those down", x.best(0, 4), 11);
    x.page(80, 20);
    due("the first of all", x.best(0, 4), 0);
    x = new AlbumSetter();
    x.page(20, 30);
    plain(2, 1, 1, 1, 1, 1);
    // the first above the next two is 20 by 20 and costs 333; all three down 12 by 30 and 336
    due("cost(0, 3, 3)", x.cost(0, 3, 3), 336);
    due("cost(0, 3, 4)", x.cost(0, 3, 4), 333);
    due("the fifth", x.best(0, 3), 4);
  }

  private static void bestOfLike() {
    sentence("The first TREE with the least COST");
    squares(4, 0);
    due("a like cost", x.cost(0, 4, 7), x.cost(0, 4, 18));
    due("the first of two", x.best(0, 4), 7);
    due("a like cost", x.cost(0, 2, 0), x.cost(0, 2, 1));
    due("the first of two", x.best(0, 2), 0);
    due("a like cost", x.cost(0, 3, 0), x.cost(0, 3, 3));
    due("the first of two", x.best(0, 3), 0);
  }

  private static void bestRefused() {
    sentence("The first TREE with the least COST there; NONE likewise.");
    due("of no pictures", x.best(0, 1), -1);
    threeWideFive();
    for (int[] w : NOT_THERE) due("best(" + w[0] + ", " + w[1] + ")", x.best(w[0], w[1]), -1);
    for (int[] w : WITH_A_WIDE_ONE) due("best(" + w[0] + ", " + w[1] + ")", x.best(w[0], w[1]), -1);
    due("of the wide one", x.best(3, 1), 0);
    due("of the last", x.best(8, 1), 0);
  }
}
