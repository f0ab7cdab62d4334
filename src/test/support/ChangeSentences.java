import java.util.List;

/** The sentences of promises 1 to 7, and of promise 20. */
final class ChangeSentences extends Sentences {
  private static final int[][] WRONG_PICTURES = {
    {0, 1, 1, 0, 0}, {13, 1, 1, 0, 0}, {1, 0, 1, 0, 0}, {1, 13, 1, 0, 0}, {1, 1, 0, 0, 0}, {1, 1, 10, 0, 0},
    {1, 1, 1, -1, 0}, {1, 1, 1, 2, 0}, {1, 1, 1, 0, -1}, {1, 1, 1, 0, 10},
    {FAR, 1, 1, 0, 0}, {1, FAR, 1, 0, 0}, {1, 1, FAR, 0, 0}, {1, 1, 1, FAR, 0}, {1, 1, 1, 0, FAR},
    {LOW, 1, 1, 0, 0}, {1, LOW, 1, 0, 0}, {1, 1, LOW, 0, 0}, {1, 1, 1, LOW, 0}, {1, 1, 1, 0, LOW}};

  static void all() {
    newObject();
    newObjectBesideAnother();
    pageDone();
    pageRefused();
    pictureDone();
    pictureRefused();
    pictureRefusedByTwelve();
    changeDone();
    changeRefused();
    swapDone();
    swapRefused();
    dropDone();
    dropRefused();
    aboutOfPictures();
    aboutRefused();
    undoOfEach();
    undoOfWhatWasNotDone();
    undoOfMore();
    eightAreKept();
    eightAreKeptAgain();
    undoRefused();
  }

  private static void newObject() {
    sentence("No PICTURES; a page of 100 by 100.");
    due("about(0)", x.about(0), 0);
    due("about(10)", x.about(10), -1);
    duePage(100, 100);
    due("pages()", x.pages(), 0);
    due("undo()", x.undo(), false);
  }

  private static void newObjectBesideAnother() {
    sentence("No PICTURES;");
    AlbumSetter other = x;
    other.page(20, 30);
    other.picture(2, 3, 4, 0, 5);
    x = new AlbumSetter();
    due("about(0)", x.about(0), 0);
    duePage(100, 100);
    due("changed()", x.changed(), -1);
    due("undo()", x.undo(), false);
    due("about(1) of the other", other.about(1), 20);
  }

  private static void pageDone() {
    sentence("A page is w by h: true;");
    due("page(20, 20)", x.page(20, 20), true);
    duePage(20, 20);
    due("page(200, 200)", x.page(200, 200), true);
    duePage(200, 200);
    due("the same again", x.page(200, 200), true);
    due("undo() of the same", x.undo(), true);
    duePage(200, 200);
    due("undo()", x.undo(), true);
    duePage(20, 20);
  }

  private static void pageRefused() {
    sentence("false, and nothing is done, if that can't be.");
    plain(1, 1, 2, 1);
    x.page(40, 30);
    List<Integer> before = answers();
    int[][] wrongs = {{19, 40}, {40, 19}, {201, 40}, {40, 201}, {0, 40}, {40, 0}, {-40, 40}, {40, -40}, {FAR, 40}, {40, FAR}, {LOW, 40}, {40, LOW}};
    for (int[] w : wrongs) due("page(" + w[0] + ", " + w[1] + ")", x.page(w[0], w[1]), false);
    dueNothingDone(before);
    due("undo() of page(40, 30)", x.undo(), true);
    duePage(100, 100);
  }

  private static void pictureDone() {
    sentence("A PICTURE comes behind the others: its number.");
    due("the first", x.picture(1, 2, 3, 0, 4), 0);
    due("the second", x.picture(12, 11, 9, 1, 9), 1);
    x.drop(0);
    due("behind one that is left", x.picture(5, 6, 7, 0, 8), 1);
    duePicture(0, 12, 11, 9, 1, 9);
    duePicture(1, 5, 6, 7, 0, 8);
    due("about(0)", x.about(0), 2);
  }

  private static void pictureRefused() {
    sentence("NONE, and nothing is done: something can't be,");
    plain(1, 1, 2, 1);
    List<Integer> before = answers();
    for (int[] p : WRONG_PICTURES) due("picture(" + p[0] + ", " + p[1] + ", " + p[2] + ", " + p[3] + ", " + p[4] + ")", x.picture(p[0], p[1], p[2], p[3], p[4]), -1);
    dueNothingDone(before);
    due("undo() of the second", x.undo(), true);
    due("about(0)", x.about(0), 1);
  }

  private static void pictureRefusedByTwelve() {
    sentence("or there are 12.");
    squares(11, 0);
    due("the twelfth", x.picture(3, 2, 1, 0, 0), 11);
    List<Integer> before = answers();
    due("a thirteenth", x.picture(1, 1, 1, 0, 0), -1);
    due("another", x.picture(2, 1, 9, 1, 9), -1);
    dueNothingDone(before);
    due("undo() of the twelfth", x.undo(), true);
    due("about(0)", x.about(0), 11);
    due("there is room again", x.picture(1, 1, 1, 0, 0), 11);
  }

  private static void changeDone() {
    sentence("PICTURE i becomes that: true;");
    for (int i = 0; i < 12; i++) x.picture(1, 1, 1, 0, 0);
    due("the first, to the least", x.change(0, 1, 1, 1, 0, 0), true);
    due("the last, to the largest", x.change(11, 12, 12, 9, 1, 9), true);
    due("one between", x.change(5, 2, 3, 4, 0, 6), true);
    duePicture(0, 1, 1, 1, 0, 0);
    duePicture(4, 1, 1, 1, 0, 0);
    duePicture(5, 2, 3, 4, 0, 6);
    duePicture(6, 1, 1, 1, 0, 0);
    duePicture(11, 12, 12, 9, 1, 9);
    due("about(0)", x.about(0), 12);
  }

  private static void changeRefused() {
    sentence("false, and nothing is done, if there is none such, or something can't be.");
    due("of no pictures", x.change(0, 1, 1, 1, 0, 0), false);
    plain(1, 1, 2, 1);
    x.change(1, 3, 1, 1, 0, 0);
    List<Integer> before = answers();
    for (int i : new int[] {-1, 2, 11, 12, FAR, LOW}) due("change(" + i + ")", x.change(i, 1, 1, 1, 0, 0), false);
    for (int[] p : WRONG_PICTURES) due("a wrong change", x.change(1, p[0], p[1], p[2], p[3], p[4]), false);
    dueNothingDone(before);
    due("undo() of the change", x.undo(), true);
    duePicture(1, 2, 1, 1, 0, 0);
  }

  private static void swapDone() {
    sentence("PICTURES i and j change places: true;");
    for (int i = 0; i < 12; i++) x.picture(i + 1, 12 - i, 1 + i % 9, i % 2, i % 10);
    due("the first and the last", x.swap(0, 11), true);
    duePicture(0, 12, 1, 3, 1, 1);
    duePicture(11, 1, 12, 1, 0, 0);
    duePicture(1, 2, 11, 2, 1, 1);
    due("the other way", x.swap(11, 0), true);
    duePicture(0, 1, 12, 1, 0, 0);
    duePicture(11, 12, 1, 3, 1, 1);
    due("one with itself", x.swap(11, 11), true);
    duePicture(11, 12, 1, 3, 1, 1);
    due("undo() of that", x.undo(), true);
    due("undo() of the other way", x.undo(), true);
    duePicture(0, 12, 1, 3, 1, 1);
  }

  private static void swapRefused() {
    sentence("false, and nothing is done, if one is none.");
    due("of no pictures", x.swap(0, 0), false);
    plain(1, 1, 2, 1);
    x.swap(0, 1);
    List<Integer> before = answers();
    for (int i : new int[] {-1, 2, 11, 12, FAR, LOW}) {
      due("swap(0, " + i + ")", x.swap(0, i), false);
      due("swap(" + i + ", 0)", x.swap(i, 0), false);
      due("swap of " + i + " with itself", x.swap(i, i), false);
    }
    dueNothingDone(before);
    due("undo() of the swap", x.undo(), true);
    duePicture(0, 1, 1, 1, 0, 0);
  }

  private static void dropDone() {
    sentence("PICTURE i goes; those behind it have numbers less by one: true;");
    for (int i = 0; i < 12; i++) x.picture(i + 1, 12 - i, 1 + i % 9, i % 2, i % 10);
    due("the last", x.drop(11), true);
    due("about(120)", x.about(120), -1);
    duePicture(10, 11, 2, 2, 0, 0);
    due("the first", x.drop(0), true);
    due("one between", x.drop(4), true);
    due("about(0)", x.about(0), 9);
    int[] left = {2, 3, 4, 5, 7, 8, 9, 10, 11};
    for (int i = 0; i < 9; i++) duePicture(i, left[i], 13 - left[i], 1 + (left[i] - 1) % 9, (left[i] - 1) % 2, (left[i] - 1) % 10);
    for (int i = 8; i >= 0; i--) due("drop(" + i + ")", x.drop(i), true);
    due("none is left", x.about(0), 0);
    due("about(10)", x.about(10), -1);
    due("book()", x.book(), 0);
  }

  private static void dropRefused() {
    sentence("false if there is none such.");
    due("of no pictures", x.drop(0), false);
    plain(1, 1, 2, 1, 3, 1);
    x.drop(2);
    List<Integer> before = answers();
    for (int i : new int[] {-1, 2, 11, 12, FAR, LOW}) due("drop(" + i + ")", x.drop(i), false);
    dueNothingDone(before);
    due("undo() of the drop", x.undo(), true);
    duePicture(2, 3, 1, 1, 0, 0);
  }

  private static void aboutOfPictures() {
    sentence("What 0 N, 1 W, 2 H; of PICTURE i 10 i + 10 w, + 11 h, + 12 WORTH, + 13 KIND, + 14 GROUP.");
    x.page(33, 44);
    for (int i = 0; i < 12; i++) {
      due("N", x.about(0), i);
      x.picture(i + 1, 12 - i, 1 + i % 9, i % 2, i % 10);
    }
    due("N", x.about(0), 12);
    due("W", x.about(1), 33);
    due("H", x.about(2), 44);
    for (int i = 0; i < 12; i++) duePicture(i, i + 1, 12 - i, 1 + i % 9, i % 2, i % 10);
  }

  private static void aboutRefused() {
    sentence("+ 14 GROUP. NONE if there is none such.");
    for (int what : new int[] {10, 11, 12, 13, 14}) due("of no pictures about(" + what + ")", x.about(what), -1);
    squares(12, 0);
    for (int what = 3; what < 10; what++) due("about(" + what + ")", x.about(what), -1);
    for (int i = 0; i < 12; i++) for (int field = 5; field < 10; field++) due("about(" + (10 * i + 10 + field) + ")", x.about(10 * i + 10 + field), -1);
    for (int what = 130; what < 140; what++) due("about(" + what + ")", x.about(what), -1);
    for (int what : new int[] {-1, -2, -9, -10, -11, -100, FAR, FAR - 7, LOW, LOW + 8, LOW + 10}) due("about(" + what + ")", x.about(what), -1);
    x.drop(11);
    for (int field = 0; field < 5; field++) due("of the one dropped", x.about(120 + field), -1);
  }

  private static void undoOfEach() {
    sentence("The latest call of page(), picture(), change(), swap(), drop() that was done and not taken back is taken back");
    x.page(30, 40);
    x.picture(1, 2, 3, 0, 4);
    x.picture(5, 6, 7, 1, 8);
    x.change(0, 9, 10, 9, 0, 9);
    x.swap(0, 1);
    x.drop(0);
    due("undo() of drop", x.undo(), true);
    due("about(0)", x.about(0), 2);
    duePicture(0, 5, 6, 7, 1, 8);
    duePicture(1, 9, 10, 9, 0, 9);
    due("undo() of swap", x.undo(), true);
    duePicture(0, 9, 10, 9, 0, 9);
    duePicture(1, 5, 6, 7, 1, 8);
    due("undo() of change", x.undo(), true);
    duePicture(0, 1, 2, 3, 0, 4);
    due("undo() of the second picture", x.undo(), true);
    due("about(0)", x.about(0), 1);
    due("about(20)", x.about(20), -1);
    due("undo() of the first picture", x.undo(), true);
    due("about(0)", x.about(0), 0);
    duePage(30, 40);
    due("undo() of page", x.undo(), true);
    duePage(100, 100);
  }

  private static void undoOfWhatWasNotDone() {
    sentence("that was done and not taken back");
    x.picture(1, 1, 1, 0, 0);
    x.page(50, 60);
    x.page(19, 60);
    x.picture(13, 1, 1, 0, 0);
    x.change(1, 1, 1, 1, 0, 0);
    x.swap(0, 1);
    x.drop(1);
    x.book();
    x.changed();
    due("undo()", x.undo(), true);
    duePage(100, 100);
    due("about(0)", x.about(0), 1);
    // what has been taken back is not the latest any more, nor does a second undo() bring it back
    x.page(70, 80);
    due("undo() of page(70, 80)", x.undo(), true);
    duePage(100, 100);
    due("undo() of picture()", x.undo(), true);
    due("about(0)", x.about(0), 0);
    due("undo()", x.undo(), false);
  }

  private static void undoOfMore() {
    sentence("is taken back");
    squares(12, 0);
    x.picture(1, 1, 1, 0, 0);
    x.drop(0);
    x.picture(7, 7, 7, 0, 7);
    due("undo()", x.undo(), true);
    due("undo()", x.undo(), true);
    due("twelve again", x.about(0), 12);
    duePicture(11, 1, 1, 1, 0, 0);
    due("book()", x.book(), 0);
    due("books() are those of twelve squares", x.books(), 26);
    x.undo();
    due("books() are those of eleven", x.books(), 19);
  }

  private static void eightAreKept() {
    sentence("(8 are kept): true;");
    for (int w = 21; w <= 28; w++) x.page(w, w);
    for (int w = 27; w >= 21; w--) {
      due("undo()", x.undo(), true);
      duePage(w, w);
    }
    due("the eighth", x.undo(), true);
    duePage(100, 100);
    due("a ninth", x.undo(), false);
    x = new AlbumSetter();
    for (int w = 21; w <= 29; w++) x.page(w, w);
    for (int i = 0; i < 8; i++) due("undo()", x.undo(), true);
    due("of nine the first is not kept", x.undo(), false);
    duePage(21, 21);
  }

  private static void eightAreKeptAgain() {
    sentence("(8 are kept)");
    for (int w = 21; w <= 40; w++) x.page(w, w);
    for (int i = 0; i < 5; i++) x.undo();
    duePage(35, 35);
    for (int w = 51; w <= 54; w++) x.page(w, w);
    // three of the first are left, and four new ones
    for (int i = 0; i < 7; i++) due("undo()", x.undo(), true);
    duePage(32, 32);
    due("undo()", x.undo(), false);
    for (int w = 61; w <= 69; w++) x.page(w, w);
    for (int i = 0; i < 8; i++) due("undo()", x.undo(), true);
    duePage(61, 61);
    due("undo()", x.undo(), false);
  }

  private static void undoRefused() {
    sentence("false if there is none.");
    due("of a new object", x.undo(), false);
    x.page(0, 0);
    x.picture(0, 0, 0, 0, 0);
    due("of calls that were not done", x.undo(), false);
    x.page(50, 60);
    due("undo()", x.undo(), true);
    List<Integer> before = answers();
    due("behind the last", x.undo(), false);
    dueNothingDone(before);
    duePage(100, 100);
  }
}
