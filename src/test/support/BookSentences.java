import java.util.List;

/** The sentences on books under "Terms", and those of promises 14 to 19. */
final class BookSentences extends Sentences {
  static void all() {
    onePageHasFour();
    widePages();
    emptyPages();
    noEmptyPages();
    groups();
    groupsParted();
    bestTrees();
    bestTreesOfTheLast();
    emptyCost();
    moreThanFour();
    fourInARow();
    likeBooks();
    likeBooksWithEmptyPages();
    bookCost();
    noBook();
    bookOfNone();
    pages();
    noPages();
    leaf();
    leafOfEmpty();
    leafRefused();
    pageOf();
    pageOfRefused();
    books();
    noBooks();
    changed();
    changedByEach();
    changedOfNone();
    changedOfSame();
    changedAheadOfAny();
  }

  private static void onePageHasFour() {
    sentence("A BOOK: pages 0, 1, .. (even ones on the left), each with the next 1 .. 4 PLAIN pictures by a TREE, or empty;");
    x.page(20, 80);
    squares(12, 0);
    dueLeaves(4, 0, 11, 4, 4, 11, 4, 8, 11);
    due("book()", x.book(), 0);
    // five down would cost nothing, but a page has four at most
    x = new AlbumSetter();
    x.page(20, 100);
    squares(5, 0);
    dueLeaves(1, 0, 0, 4, 1, 11);
    due("book()", x.book(), 2000);
  }

  private static void widePages() {
    sentence("or two, the first even, with a WIDE picture.");
    wide(2, 1);
    dueLeaves(1, 0, 0, 1, 0, 0);
    wide(2, 1);
    dueLeaves(1, 0, 0, 1, 0, 0, 1, 1, 0, 1, 1, 0);
    plain(1, 1);
    dueLeaves(1, 0, 0, 1, 0, 0, 1, 1, 0, 1, 1, 0, 1, 2, 0);
    wide(2, 1);
    due("the first even", x.pageOf(3), 6);
    due("pages()", x.pages(), 8);
    due("a spread costs once", x.book(), 10000);
  }

  private static void emptyPages() {
    sentence("A page is empty just where it is odd and a WIDE one comes behind it.");
    plain(1, 1);
    wide(2, 1);
    dueCounts(1, 0, 1, 1);
    due("swap(0, 1)", x.swap(0, 1), true);
    dueCounts(1, 1, 1);
    wide(2, 1);
    dueCounts(1, 1, 1, 0, 1, 1);
    plain(1, 1);
    dueCounts(1, 1, 1, 0, 1, 1, 1);
    wide(2, 1);
    dueCounts(1, 1, 1, 0, 1, 1, 1, 0, 1, 1);
  }

  private static void noEmptyPages() {
    sentence("A page is empty just where it is odd");
    squares(1, 0);
    dueCounts(1);
    squares(1, 0);
    wide(2, 1);
    dueCounts(1, 1, 1, 1);
    wide(2, 1);
    dueCounts(1, 1, 1, 1, 1, 1);
    squares(3, 0);
    dueCounts(1, 1, 1, 1, 1, 1, 1, 1, 1);
    wide(2, 1);
    // rather two on a page (5000) than an empty one (10000)
    dueCounts(1, 1, 1, 1, 1, 1, 1, 2, 1, 1);
  }

  private static void groups() {
    sentence("Two PLAIN neighbours of one GROUP (not 0) are on one page.");
    squares(2, 4);
    // each on a page would cost nothing
    dueCounts(2);
    due("book()", x.book(), 5000);
    squares(1, 4);
    dueCounts(3);
    squares(2, 5);
    // four of the five on one page would cost nothing, but that parts a group
    dueCounts(3, 2);
    x.swap(0, 4);
    // 5 4 4 5 4: now they may, and 1 4 comes ahead of 4 1
    dueCounts(1, 4);
    due("book()", x.book(), 0);
    due("books()", x.books(), 2);
  }

  private static void groupsParted() {
    sentence("Two PLAIN neighbours of one GROUP (not 0)");
    squares(3, 0);
    dueCounts(1, 1, 1);
    x.change(1, 1, 1, 1, 0, 1);
    dueCounts(1, 1, 1);
    x.change(0, 1, 1, 1, 0, 2);
    x.change(2, 1, 1, 1, 0, 2);
    dueCounts(1, 1, 1);
    // a wide one is with nobody, nor do those of its group on both sides come together
    x.change(1, 2, 1, 1, 1, 2);
    dueCounts(1, 0, 1, 1, 1);
    x.swap(0, 1);
    dueCounts(1, 1, 2);
    x.swap(0, 2);
    dueCounts(2, 0, 1, 1);
  }

  private static void bestTrees() {
    sentence("Each page has its best TREE (the first of the least COST);");
    squares(4, 3);
    dueLeaves(4, 0, 7);
    x.page(20, 80);
    dueLeaves(4, 0, 11);
    x.page(80, 20);
    dueLeaves(4, 0, 0);
    x.page(100, 100);
    x.drop(0);
    dueLeaves(3, 0, 0);
    x.drop(0);
    dueLeaves(2, 0, 0);
    x.page(100, 101);
    dueLeaves(2, 0, 1);
  }

  private static void bestTreesOfTheLast() {
    sentence("Each page has its best TREE");
    x.page(100, 101);
    squares(12, 0);
    // the last two, three and four of twelve; those ahead of them are held so that none of them comes along
    for (int i = 7; i < 12; i++) x.change(i, 1, 1, 1, 0, i < 10 ? 6 : 7);
    due("two: one below the other", x.leaf(x.pageOf(11), 2), 1);
    due("the first of them", x.leaf(x.pageOf(11), 1), 10);
    x.change(9, 1, 1, 1, 0, 7);
    due("three: one below the other", x.leaf(x.pageOf(11), 2), 3);
    due("the first of them", x.leaf(x.pageOf(11), 1), 9);
    x.change(8, 1, 1, 1, 0, 7);
    due("four: two by two", x.leaf(x.pageOf(11), 2), 7);
    x.page(20, 80);
    due("four: one below the other", x.leaf(x.pageOf(11), 2), 11);
    due("the first of them", x.leaf(x.pageOf(11), 1), 8);
  }

  private static void emptyCost() {
    sentence("an empty one has COST W H.");
    plain(1, 1);
    wide(2, 1);
    due("book()", x.book(), 10000);
    x.page(20, 20);
    due("the least", x.book(), 400);
    x.page(200, 200);
    due("the largest", x.book(), 40000);
    x.page(20, 200);
    // 20 by 20 of 20 by 200, the empty page, and 40 by 20 of 40 by 200
    due("a high page", x.book(), 3600 + 4000 + 7200);
  }

  private static void moreThanFour() {
    sentence("There is no BOOK, if a GROUP has more than 4 neighbours in a row.");
    squares(4, 1);
    due("four", x.book(), 0);
    squares(1, 1);
    due("five", x.book(), -1);
    x.change(0, 1, 1, 1, 0, 2);
    due("the last four", x.book(), 0);
    x.swap(0, 4);
    due("the first four", x.book(), 0);
    x.change(4, 1, 1, 1, 0, 1);
    squares(7, 0);
    due("five ahead of others", x.book(), -1);
    x = new AlbumSetter();
    squares(3, 0);
    squares(5, 9);
    squares(4, 0);
    due("five among others", x.book(), -1);
    x.change(5, 1, 1, 1, 0, 8);
    due("two, one, two", x.book() >= 0, true);
    x = new AlbumSetter();
    squares(7, 0);
    squares(5, 1);
    due("five behind others", x.book(), -1);
    for (int i = 0; i < 12; i++) x.change(i, 1, 1, 1, 0, 1);
    due("twelve", x.book(), -1);
    for (int i = 0; i < 12; i++) x.change(i, 1, 1, 1, 0, 0);
    due("twelve of none", x.book(), 0);
  }

  private static void fourInARow() {
    sentence("if a GROUP has more than 4 neighbours in a row.");
    squares(4, 1);
    squares(1, 2);
    squares(4, 1);
    dueCounts(4, 1, 4);
    x.change(4, 2, 1, 1, 1, 1);
    dueCounts(4, 0, 1, 1, 4);
    x.change(4, 1, 1, 1, 0, 1);
    due("nine", x.pages(), -1);
    for (int i = 4; i < 8; i++) x.change(i, 1, 1, 1, 0, 2);
    dueCounts(4, 4, 1);
  }

  private static void likeBooks() {
    sentence("BOOKS of like COST are ordered by how many pictures the pages have, the lesser first at the first unlikeness");
    squares(4, 0);
    due("1 1 1 1 and 4", x.books(), 2);
    dueCounts(1, 1, 1, 1);
    x = new AlbumSetter();
    x.page(20, 100);
    squares(5, 0);
    due("1 4, 2 3, 3 2 and 4 1", x.books(), 4);
    dueCounts(1, 4);
    squares(4, 0);
    due("nine by three pages", x.books(), 10);
    dueCounts(1, 4, 4);
    // the first three together
    for (int i = 0; i < 3; i++) x.change(i, 1, 1, 1, 0, 1);
    due("3 2 4, 3 3 3, 3 4 2, 4 1 4, 4 2 3, 4 3 2 and 4 4 1", x.books(), 7);
    dueCounts(3, 2, 4);
  }

  private static void likeBooksWithEmptyPages() {
    sentence("the lesser first at the first unlikeness (empty pages left out).");
    x.page(20, 200);
    squares(2, 0);
    wide(12, 1);
    due("1 1 and 2 with an empty page", x.books(), 2);
    dueCounts(1, 1, 1, 1);
    squares(1, 0);
    x.swap(2, 3);
    due("1 2, 2 1 and 3 with an empty page", x.books(), 3);
    dueCounts(1, 2, 1, 1);
    x = new AlbumSetter();
    x.page(20, 200);
    squares(4, 0);
    wide(12, 1);
    due("1 3, 2 2, 3 1 and 4 with an empty page", x.books(), 4);
    dueCounts(1, 3, 1, 1);
    // 1 to 3 together leave 1 3 and 4; all together leave 4 alone
    for (int i = 1; i < 4; i++) x.change(i, 1, 1, 1, 0, 1);
    due("1 3 and 4", x.books(), 2);
    dueCounts(1, 3, 1, 1);
    x.change(0, 1, 1, 1, 0, 1);
    due("4", x.books(), 1);
    dueCounts(4, 0, 1, 1);
  }

  private static void bookCost() {
    sentence("The COST of the BOOK;");
    plain(1, 1);
    due("one that fills its page", x.book(), 0);
    x.change(0, 2, 1, 1, 0, 0);
    due("one that fills half", x.book(), 5000);
    x = new AlbumSetter();
    x.page(200, 200);
    for (int i = 0; i < 12; i++) x.picture(1, 12, 1, 1, 0);
    due("the largest: twelve spreads with 17 by 200", x.book(), 12 * (80000 - 3400));
    for (int i = 0; i < 12; i += 2) x.change(i, 1, 12, 1, 0, 0);
    due("and six pages, six empty ones and six spreads", x.book(), 6 * (40000 - 3400 + 40000 + 80000 - 3400));
  }

  private static void noBook() {
    sentence("The COST of the BOOK; NONE if there is none.");
    squares(5, 1);
    due("book()", x.book(), -1);
    due("undo()", x.undo(), true);
    due("book() of four", x.book(), 0);
  }

  private static void bookOfNone() {
    sentence("(Of no PICTURES: 0.)");
    due("book()", x.book(), 0);
    x.page(20, 200);
    due("of another page", x.book(), 0);
    plain(2, 1);
    x.drop(0);
    due("when all have gone", x.book(), 0);
  }

  private static void pages() {
    sentence("How many pages it has;");
    due("of no pictures", x.pages(), 0);
    squares(1, 0);
    due("of one", x.pages(), 1);
    x.change(0, 1, 1, 1, 1, 0);
    due("of a wide one", x.pages(), 2);
    squares(1, 0);
    due("the last page may be a left one", x.pages(), 3);
    x = new AlbumSetter();
    for (int i = 0; i < 12; i++) wide(1, 1);
    due("the most", x.pages(), 24);
    for (int i = 0; i < 12; i += 2) x.change(i, 1, 1, 1, 0, 0);
    due("the most with empty ones", x.pages(), 24);
    for (int i = 0; i < 12; i++) x.change(i, 1, 1, 1, 0, 1 + i / 4);
    due("the least of twelve", x.pages(), 3);
  }

  private static void noPages() {
    sentence("How many pages it has; NONE if there is none.");
    squares(5, 1);
    due("pages()", x.pages(), -1);
    x.change(2, 1, 1, 1, 0, 0);
    due("pages() again", x.pages(), 3);
  }

  private static void leaf() {
    sentence("Of page p of it: what 0 how many pictures (0 of an empty one; of both pages of a WIDE one 1), 1 the first of them");
    for (int i = 0; i < 4; i++) x.picture(1, 1, 1, 0, 1);
    wide(2, 1);
    squares(3, 2);
    dueLeaves(4, 0, 7, 0, -1, -1, 1, 4, 0, 1, 4, 0, 3, 5, 0);
    x = new AlbumSetter();
    for (int i = 0; i < 12; i++) wide(1, 1);
    for (int p = 0; p < 24; p++) {
      due("leaf(" + p + ", 0)", x.leaf(p, 0), 1);
      due("leaf(" + p + ", 1)", x.leaf(p, 1), p / 2);
      due("leaf(" + p + ", 2)", x.leaf(p, 2), 0);
    }
  }

  private static void leafOfEmpty() {
    sentence("(NONE), 2 its TREE (NONE of an empty one).");
    squares(2, 1);
    wide(2, 1);
    due("how many", x.leaf(1, 0), 0);
    due("the first", x.leaf(1, 1), -1);
    due("its tree", x.leaf(1, 2), -1);
    due("the tree ahead of it", x.leaf(0, 2), 0);
    due("the tree behind it", x.leaf(2, 2), 0);
  }

  private static void leafRefused() {
    sentence("NONE if there is none such, or another what.");
    for (int what = 0; what < 3; what++) due("of no pictures", x.leaf(0, what), -1);
    squares(2, 0);
    for (int p : new int[] {-1, 2, 3, 24, FAR, LOW}) for (int what = 0; what < 3; what++) due("leaf(" + p + ", " + what + ")", x.leaf(p, what), -1);
    for (int what : new int[] {-1, 3, -2, 4, FAR, LOW}) for (int p = 0; p < 2; p++) due("leaf(" + p + ", " + what + ")", x.leaf(p, what), -1);
    squares(10, 0);
    for (int what = 0; what < 3; what++) due("the last", x.leaf(11, what) >= 0, true);
    for (int what = 0; what < 3; what++) due("behind the last", x.leaf(12, what), -1);
    for (int i = 0; i < 12; i++) x.change(i, 1, 1, 1, 0, 1);
    for (int what = 0; what < 3; what++) due("of no book", x.leaf(0, what), -1);
  }

  private static void pageOf() {
    sentence("The page of PICTURE i in the BOOK (the left one of a WIDE one);");
    squares(2, 1);
    wide(2, 1);
    squares(4, 2);
    squares(1, 0);
    wide(2, 1);
    int[] want = {0, 0, 2, 4, 4, 4, 4, 5, 6};
    for (int i = 0; i < want.length; i++) due("pageOf(" + i + ")", x.pageOf(i), want[i]);
    x = new AlbumSetter();
    for (int i = 0; i < 12; i++) wide(2, 1);
    for (int i = 0; i < 12; i++) due("pageOf(" + i + ")", x.pageOf(i), 2 * i);
  }

  private static void pageOfRefused() {
    sentence("(the left one of a WIDE one); NONE if there is none.");
    due("of no pictures", x.pageOf(0), -1);
    squares(2, 0);
    for (int i : new int[] {-1, 2, 3, 11, 12, FAR, LOW}) due("pageOf(" + i + ")", x.pageOf(i), -1);
    x.drop(1);
    due("of one that has gone", x.pageOf(1), -1);
    squares(11, 0);
    due("of the last", x.pageOf(11), 11);
    due("behind the last", x.pageOf(12), -1);
    for (int i = 0; i < 12; i++) x.change(i, 1, 1, 1, 0, 1);
    for (int i = 0; i < 12; i++) due("in no book", x.pageOf(i), -1);
  }

  /** Twelve pictures can be parted in 1490 ways at most, so no run comes to where an int wraps. */
  private static void books() {
    sentence("How many BOOKS there are with that COST (an int; it wraps);");
    due("of no pictures", x.books(), 1);
    // each alone, or four together: b(n) = b(n - 1) + b(n - 4)
    int[] want = {1, 1, 1, 1, 2, 3, 4, 5, 7, 10, 14, 19, 26};
    for (int n = 1; n <= 12; n++) {
      squares(1, 0);
      due("of " + n, x.books(), want[n]);
    }
    due("a thirteenth", x.picture(1, 1, 1, 0, 0), -1);
    due("of twelve still", x.books(), 26);
    // nine by three pages of 4 at most, ten, eleven and twelve
    x.page(20, 100);
    int[] byThree = {1, 3, 6, 10};
    for (int less = 0; less < 4; less++) {
      due("twelve less " + less, x.books(), byThree[less]);
      x.drop(0);
    }
  }

  private static void noBooks() {
    sentence("it wraps); NONE if there is none.");
    squares(5, 1);
    due("books()", x.books(), -1);
    x.drop(4);
    due("books() again", x.books(), 1);
  }

  private static void changed() {
    sentence("From which page on the BOOK is another one than it was before the latest change of PICTURES or page");
    squares(1, 0);
    due("the first page is new", x.changed(), 0);
    squares(1, 0);
    due("the second page is new", x.changed(), 1);
    squares(2, 0);
    due("the fourth page is new", x.changed(), 3);
    x.drop(3);
    due("the fourth page is gone", x.changed(), 3);
    x.change(1, 1, 1, 1, 0, 5);
    x.change(2, 1, 1, 1, 0, 5);
    due("two on the second page", x.changed(), 1);
    x.page(100, 101);
    // the two are better down than across now
    due("another tree on the second page", x.changed(), 1);
    due("its tree", x.leaf(1, 2), 1);
    x.change(0, 1, 1, 1, 0, 5);
    due("all on the first page", x.changed(), 0);
    x.drop(2);
    due("less on the first page", x.changed(), 0);
    x.page(101, 100);
    due("another tree on the first page", x.changed(), 0);
    due("its tree", x.leaf(0, 2), 0);
    x.drop(0);
    x.drop(0);
    due("all are gone", x.changed(), 0);
  }

  private static void changedByEach() {
    sentence("before the latest change of PICTURES or page");
    squares(4, 0);
    wide(2, 1);
    x.swap(1, 4);
    // four pages and a spread before; a page, an empty one, a spread and three pages now
    due("swap", x.changed(), 1);
    due("asked again", x.changed(), 1);
    x.book();
    x.side(0, 1, 0, 0, 0);
    x.swap(0, 5);
    x.drop(5);
    x.page(19, 100);
    due("behind calls that change nothing", x.changed(), 1);
    due("undo()", x.undo(), true);
    due("undo() is a change", x.changed(), 1);
    x.drop(2);
    // 1 2 and a spread now
    due("drop", x.changed(), 1);
    x.change(1, 1, 1, 1, 1, 0);
    // a page, an empty one and a spread, twice
    due("change", x.changed(), 1);
    x.picture(1, 1, 1, 0, 0);
    due("picture", x.changed(), 8);
    x.page(50, 50);
    due("page", x.changed(), 9);
  }

  private static void changedOfNone() {
    sentence("(0 if the one or the other is none;");
    squares(1, 0);
    squares(5, 1);
    due("the one now is none", x.changed(), 0);
    x.page(50, 50);
    due("both are none", x.changed(), 0);
    x.drop(5);
    due("the former is none", x.changed(), 0);
    x.page(60, 60);
    due("neither is none", x.changed(), 2);
    x.undo();
    due("neither is none", x.changed(), 2);
    x.undo();
    due("none again by undo()", x.changed(), 0);
  }

  private static void changedOfSame() {
    sentence("how many pages it has, if it is the same).");
    x.page(50, 50);
    due("the same book of no pictures", x.changed(), 0);
    squares(3, 0);
    x.page(60, 60);
    due("another page, the same book", x.changed(), 3);
    x.page(60, 60);
    due("the same page", x.changed(), 3);
    x.swap(1, 1);
    due("one with itself", x.changed(), 3);
    x.swap(0, 2);
    due("two alike", x.changed(), 3);
    x.change(1, 1, 1, 1, 0, 0);
    due("to the same", x.changed(), 3);
    x.change(1, 1, 1, 9, 0, 3);
    due("another worth and group", x.changed(), 3);
    x.undo();
    due("and back", x.changed(), 3);
    wide(2, 1);
    x.page(100, 100);
    due("with a spread", x.changed(), x.pages());
  }

  private static void changedAheadOfAny() {
    sentence("NONE ahead of any change.");
    due("of a new object", x.changed(), -1);
    x.page(19, 20);
    x.picture(0, 1, 1, 0, 0);
    x.change(0, 1, 1, 1, 0, 0);
    x.swap(0, 0);
    x.drop(0);
    x.undo();
    List<Integer> before = answers();
    due("behind calls that were not done", x.changed(), -1);
    dueNothingDone(before);
    x.page(20, 20);
    due("behind one that was", x.changed(), 0);
  }
}
