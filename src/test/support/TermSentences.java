/** The sentences under "What it is" and "Terms", up to the sides and the cost. */
final class TermSentences extends Sentences {
  static void all() {
    calls();
    constants();
    manyPictures();
    pictureSides();
    worth();
    kind();
    group();
    pageSides();
    spread();
    treeOfOne();
    treeOfMore();
    numbersOfTrees();
    partsOfThree();
    shapes();
    wholeTree();
    wholeTreeBetweenPoints();
    parts();
    halves();
    exactHalves();
    linedUp();
    noPoints();
    area();
    cost();
    costDividedDownwards();
    largestCost();
    wideCost();
  }

  private static void calls() {
    sentence("An object is used for at most 512 calls after it has been made; what later calls answer is free.");
    for (int call = 1; call <= 501; call++) due("call " + call, x.page(20 + call % 181, 200 - call % 181), true);
    due("call 502", x.about(1), 20 + 501 % 181);
    for (int call = 503; call <= 510; call++) due("call " + call, x.undo(), true);
    due("call 511", x.undo(), false);
    due("call 512", x.about(2), 200 - 493 % 181);
    // free is what is answered, but not whether: no call may throw
    for (int call = 513; call <= 3000; call++) {
      x.picture(1 + call % 12, 1 + call % 7, 1 + call % 9, call % 5 / 4, call % 10);
      x.drop(call % 13);
      x.changed();
      x.undo();
    }
  }

  private static void constants() {
    sentence("The constants: `NONE = -1`: None.");
    due("NONE", AlbumSetter.NONE, -1);
  }

  private static void manyPictures() {
    sentence("PICTURES 0 .. N - 1 (N 12 at most, in their order)");
    for (int i = 0; i < 12; i++) due("picture " + i, x.picture(i + 1, 12 - i, 1, 0, 0), i);
    due("a thirteenth", x.picture(1, 1, 1, 0, 0), -1);
    due("about(0)", x.about(0), 12);
    for (int i = 0; i < 12; i++) duePicture(i, i + 1, 12 - i);
    due("of a thirteenth", x.about(130), -1);
  }

  private static void pictureSides() {
    sentence("have sides w, h (1 .. 12),");
    for (int side : new int[] {0, -1, 13, FAR, LOW}) {
      due("w " + side, x.picture(side, 5, 1, 0, 0), -1);
      due("h " + side, x.picture(5, side, 1, 0, 0), -1);
    }
    due("about(0)", x.about(0), 0);
    due("the least w", x.picture(1, 5, 1, 0, 0), 0);
    due("the least h", x.picture(5, 1, 1, 0, 0), 1);
    due("the largest w", x.picture(12, 5, 1, 0, 0), 2);
    due("the largest h", x.picture(5, 12, 1, 0, 0), 3);
    duePicture(2, 12, 5);
    duePicture(3, 5, 12);
  }

  private static void worth() {
    sentence("a WORTH (1 .. 9),");
    for (int worth : new int[] {0, -1, 10, FAR, LOW}) due("worth " + worth, x.picture(1, 1, worth, 0, 0), -1);
    due("the least", x.picture(1, 1, 1, 0, 0), 0);
    due("the largest", x.picture(1, 1, 9, 0, 0), 1);
    due("about(12)", x.about(12), 1);
    due("about(22)", x.about(22), 9);
  }

  private static void kind() {
    sentence("a KIND: 0 PLAIN, 1 WIDE,");
    for (int kind : new int[] {-1, 2, FAR, LOW}) due("kind " + kind, x.picture(1, 1, 1, kind, 0), -1);
    due("plain", x.picture(1, 1, 1, 0, 0), 0);
    due("wide", x.picture(1, 1, 1, 1, 0), 1);
    due("about(13)", x.about(13), 0);
    due("about(23)", x.about(23), 1);
    due("the plain one's page", x.cost(0, 1, 0), 0);
    due("the wide one's spread", x.cost(1, 1, 0), 10000);
  }

  private static void group() {
    sentence("and a GROUP (0: none; 1 .. 9).");
    for (int group : new int[] {-1, 10, FAR, LOW}) due("group " + group, x.picture(1, 1, 1, 0, group), -1);
    // neighbours of none may be parted, and so they cost nothing; those of the least and the largest may not
    squares(2, 0);
    due("about(14)", x.about(14), 0);
    due("none", x.pages(), 2);
    for (int group : new int[] {1, 9}) {
      x = new AlbumSetter();
      squares(2, group);
      due("about(24)", x.about(24), group);
      due("group " + group, x.pages(), 1);
    }
  }

  private static void pageSides() {
    sentence("A PAGE is W wide and H high in points (20 .. 200 each; 100 by 100 at first).");
    duePage(100, 100);
    for (int side : new int[] {19, 201, 0, -1, -20, FAR, LOW}) {
      due("W " + side, x.page(side, 50), false);
      due("H " + side, x.page(50, side), false);
    }
    duePage(100, 100);
    due("the least W and the largest H", x.page(20, 200), true);
    duePage(20, 200);
    due("the largest W and the least H", x.page(200, 20), true);
    duePage(200, 20);
  }

  private static void spread() {
    sentence("A WIDE one has a spread of its own, 2 W wide and H high.");
    wide(4, 1);
    x.page(200, 200);
    dueSides(0, 1, 0, 0, 0, 400, 100);
    x.page(20, 20);
    dueSides(0, 1, 0, 0, 0, 40, 10);
    x.page(20, 200);
    x.change(0, 1, 5, 1, 1, 0);
    dueSides(0, 1, 0, 0, 0, 40, 200);
    x.change(0, 1, 12, 1, 1, 0);
    dueSides(0, 1, 0, 0, 0, 17, 200);
    x.change(0, 12, 1, 1, 1, 0);
    dueSides(0, 1, 0, 0, 0, 40, 3);
    x.change(0, 12, 1, 1, 0, 0);
    dueSides(0, 1, 0, 0, 0, 20, 2);
  }

  private static void treeOfOne() {
    sentence("A TREE of n pictures (1 .. 4), one behind the other: of one the picture itself;");
    due("trees(0)", x.trees(0), -1);
    due("trees(1)", x.trees(1), 1);
    due("trees(4) > 0", x.trees(4) > 0, true);
    due("trees(5)", x.trees(5), -1);
    due("no cut", x.tree(1, 0, -1), 0);
    due("no parts", x.tree(1, 0, 0), -1);
    plain(3, 5, 1, 1, 1, 1, 1, 1, 1, 1);
    dueShape(0, 1, 0, 3, 5);
    due("of four", x.best(0, 4) >= 0, true);
    due("of five", x.best(0, 5), -1);
    due("of none", x.best(0, 0), -1);
  }

  private static void treeOfMore() {
    sentence("else a CUT, ACROSS (parts side by side, from the left) or DOWN (parts one below the other, from the top),"
        + " with two parts at least, each a picture, or a TREE with the other CUT; the pictures in their order.");
    for (int n = 2; n <= 4; n++) {
      for (int k = 0; k < x.trees(n); k++) {
        int parts = 0;
        int pictures = 0;
        for (int i = 0; i < 5 && x.tree(n, k, i) != -1; i++) {
          parts++;
          pictures += x.tree(n, k, i);
        }
        due("two parts at least in " + k + " of " + n, parts >= 2, true);
        due("all pictures in " + k + " of " + n, pictures, n);
      }
    }
    plain(1, 1, 2, 1);
    dueSides(0, 2, 0, 0, 0, 33, 33, 33, 0, 100, 33);
    dueSides(0, 2, 1, 0, 0, 67, 67, 0, 67, 67, 100);
    // tree 1 of three: the part of two has the other cut, so across is never cut across again
    plain(1, 1);
    dueShape(0, 3, 1, 5, 3);
    dueShape(0, 3, 4, 3, 4);
  }

  private static void numbersOfTrees() {
    sentence("TREES of n are numbered: ACROSS ahead of DOWN; then by the sizes of the parts (the lesser first at the first unlikeness);");
    int[] many = {0, 1, 2, 6, 22};
    int[][] sizes = {{}, {}, {11}, {111, 12, 21}, {1111, 112, 121, 13, 13, 13, 211, 22, 31, 31, 31}};
    for (int n = 1; n <= 4; n++) due("trees(" + n + ")", x.trees(n), many[n]);
    for (int n = 2; n <= 4; n++) {
      int half = many[n] / 2;
      for (int k = 0; k < many[n]; k++) {
        due("the cut of " + k + " of " + n, x.tree(n, k, -1), k < half ? 1 : 2);
        int size = 0;
        for (int i = 0; i < 5 && x.tree(n, k, i) != -1; i++) size = 10 * size + x.tree(n, k, i);
        due("the sizes of " + k + " of " + n, size, sizes[n][k % half]);
      }
    }
  }

  private static void partsOfThree() {
    sentence("then by the first part's TREE (among those of its size that it can be, in this order), then the second's ..");
    plain(1, 1, 1, 2, 3, 1, 1, 4);
    // the last three, down: 1/2, 3, 1/4 by 111 is 3/19; 12 has 3 + 1/4 below 1/2: 13/30; 21 has 1/2 + 3 above 1/4: 7/30
    dueShape(0, 4, 3, 22, 19);
    dueShape(0, 4, 4, 43, 30);
    dueShape(0, 4, 5, 37, 30);
    // the first three, down: 1, 1/2, 3 by 111 is 3/10; 12 has 1/2 + 3 below 1: 7/9; 21 has 1 + 1/2 above 3: 1
    dueShape(0, 4, 8, 11, 20);
    dueShape(0, 4, 9, 37, 36);
    dueShape(0, 4, 10, 5, 4);
    // and with the cuts changed: across 15/4, 12: 1/2 + 3/13, 21: 3/7 + 1/4, each below 1
    dueShape(0, 4, 14, 15, 19);
    dueShape(0, 4, 15, 19, 45);
    dueShape(0, 4, 16, 19, 47);
    // across 9/2, 12: 1 + 3/7, 21: 1/3 + 3, each above 1/4
    dueShape(0, 4, 19, 9, 38);
    dueShape(0, 4, 20, 10, 47);
    dueShape(0, 4, 21, 10, 43);
  }

  private static void shapes() {
    sentence("The SHAPE of a picture is w / h; of parts ACROSS the sum of theirs; of parts DOWN 1 by the sum of 1 by theirs.");
    plain(12, 1, 1, 12, 12, 12, 2, 3);
    dueShape(0, 1, 0, 12, 1);
    dueShape(1, 1, 0, 1, 12);
    dueShape(2, 1, 0, 1, 1);
    dueShape(0, 2, 0, 145, 12);
    dueShape(0, 2, 1, 12, 145);
    dueShape(0, 4, 0, 55, 4);
    dueShape(0, 4, 11, 12, 175);
    // 12 + 1/12 above 1 + 2/3
    dueShape(0, 4, 18, 145, 99);
    everyShape();
  }

  /** All trees of three, and of four those whose parts have two at most; 1, 1/2, 1/3 and 1/4 tell them apart. */
  private static void everyShape() {
    x = new AlbumSetter();
    plain(1, 1, 1, 2, 1, 3, 1, 4);
    dueShape(0, 3, 0, 11, 6);
    dueShape(0, 3, 1, 6, 5);
    dueShape(0, 3, 2, 2, 3);
    dueShape(0, 3, 3, 1, 6);
    dueShape(0, 3, 4, 5, 11);
    dueShape(0, 3, 5, 3, 11);
    dueShape(0, 4, 0, 25, 12);
    dueShape(0, 4, 1, 23, 14);
    dueShape(0, 4, 2, 29, 20);
    dueShape(0, 4, 6, 11, 12);
    dueShape(0, 4, 7, 10, 21);
    dueShape(0, 4, 11, 1, 10);
    dueShape(0, 4, 12, 7, 33);
    dueShape(0, 4, 13, 5, 31);
    dueShape(0, 4, 17, 3, 23);
    dueShape(0, 4, 18, 21, 50);
  }

  private static void wholeTree() {
    sentence("The whole TREE lies at 0, 0 and is as large as can be on the page in its SHAPE: W wide, if W by its SHAPE is at most H, else H high.");
    plain(2, 1);
    x.page(100, 50);
    dueSides(0, 1, 0, 0, 0, 100, 50);
    x.page(100, 49);
    dueSides(0, 1, 0, 0, 0, 98, 49);
    x.page(100, 51);
    dueSides(0, 1, 0, 0, 0, 100, 50);
    x.page(200, 20);
    dueSides(0, 1, 0, 0, 0, 40, 20);
    x.page(20, 200);
    dueSides(0, 1, 0, 0, 0, 20, 10);
  }

  private static void wholeTreeBetweenPoints() {
    sentence("W wide, if W by its SHAPE is at most H, else H high.");
    plain(3, 1);
    // 148 by 3 is a third of a point above 49, and 146 by 3 a third below
    x.page(148, 49);
    dueSides(0, 1, 0, 0, 0, 147, 49);
    x.page(146, 49);
    dueSides(0, 1, 0, 0, 0, 146, 49);
  }

  private static void parts() {
    sentence("Parts ACROSS have all its height and a width by their SHAPES; parts DOWN all its width and a height by 1 by their SHAPES.");
    x.page(120, 120);
    plain(1, 1, 1, 2, 3, 1, 6, 1);
    // 1, beside 1/2 above 3 above 6: 1 by 5/2; 7/5 in all
    dueSides(0, 4, 3, 0, 0, 86, 86, 86, 0, 120, 69, 86, 69, 120, 80, 86, 80, 120, 86);
    // 1 beside 1/2, above 3 beside 6: 3/2 and 9, 9/7 in all, 120 by 93 1/3
    dueSides(0, 4, 18, 0, 0, 80, 80, 80, 0, 120, 80, 0, 80, 40, 93, 40, 80, 120, 93);
  }

  private static void halves() {
    sentence("Each edge is laid to the nearest whole point (halves upwards): its LEFT, TOP, RIGHT, LOW.");
    plain(1, 1, 1, 1);
    x.page(25, 60);
    dueSides(0, 2, 0, 0, 0, 13, 13, 13, 0, 25, 13);
    x.page(60, 25);
    dueSides(0, 2, 1, 0, 0, 13, 13, 0, 13, 13, 25);
    // of three on 20: a third below a half, and a third above one
    squares(1, 0);
    x.page(20, 200);
    dueSides(0, 3, 0, 0, 0, 7, 7, 7, 0, 13, 7, 13, 0, 20, 7);
    // 36 603/1207 high, less than half a thousandth of a point below a half
    x = new AlbumSetter();
    plain(9, 4, 11, 5, 8, 5);
    x.page(99, 37);
    dueSides(0, 3, 2, 0, 0, 41, 18, 0, 18, 41, 36, 41, 0, 99, 36);
  }

  /** Edges on a half to the last digit, which binary fractions miss. */
  private static void exactHalves() {
    sentence("Each edge is laid to the nearest whole point (halves upwards)");
    x.page(114, 52);
    plain(3, 7, 3, 1, 3, 5);
    dueSides(0, 3, 2, 0, 0, 20, 46, 0, 46, 20, 52, 20, 0, 51, 52);
    x = new AlbumSetter();
    x.page(130, 120);
    plain(6, 10, 12, 8, 4, 12);
    dueSides(0, 3, 3, 0, 0, 23, 38, 0, 38, 23, 53, 0, 53, 23, 120);
    x = new AlbumSetter();
    x.page(77, 181);
    plain(3, 5, 3, 9, 9, 5, 10, 4);
    dueSides(0, 4, 18, 0, 0, 50, 83, 50, 0, 77, 83, 0, 83, 32, 100, 32, 83, 77, 100);
    x = new AlbumSetter();
    x.page(158, 41);
    plain(3, 2, 12, 7, 12, 4, 9, 5);
    dueSides(0, 4, 3, 0, 0, 62, 41, 62, 0, 89, 16, 62, 16, 89, 26, 62, 26, 89, 41);
  }

  private static void linedUp() {
    sentence("its LEFT, TOP, RIGHT, LOW.");
    plain(7, 11, 5, 12, 11, 9, 10, 7);
    for (int side = 20; side <= 200; side += 3) {
      x.page(side, 220 - side);
      for (int k = 0; k < 2; k++) {
        int far = 2 + k;
        for (int i = 1; i < 4; i++) due("edge in common", x.side(0, 4, 11 * k, i, k), x.side(0, 4, 11 * k, i - 1, far));
        for (int i = 1; i < 4; i++) due("one line", x.side(0, 4, 11 * k, i, 3 - k), x.side(0, 4, 11 * k, 0, 3 - k));
        due("the first at 0", x.side(0, 4, 11 * k, 0, k), 0);
      }
    }
  }

  private static void noPoints() {
    sentence("(A picture may so have no points.)");
    x.page(25, 60);
    plain(1, 12, 12, 1);
    // 25 by 145 is 0.17 of a point
    dueSides(0, 2, 0, 0, 0, 0, 2, 0, 0, 25, 2);
    due("the one without points lacks its share", x.cost(0, 2, 0), 1500 - 50 + 2 * 50 / 2);
    // none has points: 20 by 48 is less than half of one
    x = new AlbumSetter();
    x.page(20, 20);
    plain(12, 1, 12, 1, 12, 1, 12, 1);
    dueSides(0, 4, 0, 0, 0, 5, 0, 5, 0, 10, 0, 10, 0, 15, 0, 15, 0, 20, 0);
    due("none has points", x.cost(0, 4, 0), 400);
  }

  private static void area() {
    sentence("AREA of a picture: its points.");
    // 33 by 33 and 67 by 33 as laid, not 33.3 by 33.3 and 66.7 by 33.3
    plain(1, 1, 2, 1);
    due("cost(0, 2, 0)", x.cost(0, 2, 0), 10000 - 1089 - 2211 + (2211 - 1089));
  }

  private static void cost() {
    sentence("COST of a TREE: W H less all AREAS,");
    plain(1, 1);
    for (int worth : new int[] {1, 9}) {
      x.change(0, 1, 1, worth, 0, 0);
      x.page(20, 20);
      due("a full page", x.cost(0, 1, 0), 0);
      x.page(20, 21);
      due("a row left", x.cost(0, 1, 0), 20);
      x.page(200, 20);
      due("the most left", x.cost(0, 1, 0), 3600);
    }
  }

  private static void costDividedDownwards() {
    sentence("and (divided downwards) by the sum V of the WORTHS the sum of | AREA * V - T * WORTH |, T the sum of all AREAS.");
    x.page(50, 20);
    x.picture(1, 2, 1, 0, 0);
    x.picture(3, 2, 2, 0, 0);
    // areas 200 and 600; 200 too many, and 200 too few, by 3: 133 and a third, but each alone 66 and two thirds
    due("the sum is divided", x.cost(0, 2, 0), 200 + 133);
    x = new AlbumSetter();
    x.page(20, 20);
    x.picture(1, 3, 2, 0, 0);
    x.picture(3, 3, 3, 0, 0);
    x.picture(3, 3, 2, 0, 0);
    // areas 140, 100, 100: 300, 320 and 20 by 7 is 91 and three sevenths
    due("of three", x.cost(0, 3, 1), 60 + 91);
  }

  private static void largestCost() {
    sentence("COST of a TREE: W H less all AREAS, and (divided downwards) by the sum V of the WORTHS");
    x.page(200, 200);
    for (int i = 0; i < 4; i++) x.picture(1, 1, 9, 0, 0);
    due("all alike", x.cost(0, 4, 7), 0);
    for (int i = 1; i < 4; i++) x.change(i, 1, 1, 1, 0, 0);
    // 10000 each by 12, and 40000 by 9 and by 1: 240000, and 80000 thrice
    due("one worth the most, three the least", x.cost(0, 4, 7), 480000 / 12);
    x.change(0, 12, 1, 1, 0, 0);
    x.change(1, 1, 12, 9, 0, 0);
    // 199 by 17 and 1 by 17
    due("points where the worth isn't", x.cost(0, 2, 0), 40000 - 3400 + 2 * (3400 * 9 - 17 * 10) / 10);
  }

  private static void wideCost() {
    sentence("(Of a WIDE one 2 W H likewise.)");
    x.picture(2, 1, 9, 1, 0);
    x.page(200, 200);
    due("a full spread", x.cost(0, 1, 0), 0);
    x.page(20, 21);
    due("a row left", x.cost(0, 1, 0), 40);
    x.change(0, 1, 1, 1, 1, 0);
    due("half and a bit", x.cost(0, 1, 0), 2 * 20 * 21 - 21 * 21);
  }
}
