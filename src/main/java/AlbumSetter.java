/**
 * Sets an album: pictures in their order on pages by trees of cuts, and the book's breaks at the
 * least cost of all. The document is ../shared/DOC.md; words in capitals there are plain here.
 */
public final class AlbumSetter {
    public static final int NONE = -1;

    private static final int MOST_PICTURES = 12;
    private static final int MOST_ON_PAGE = 4;
    /** A picture brings two pages at most: a wide one its spread, a plain one its own and an empty one. */
    private static final int MOST_PAGES = 2 * MOST_PICTURES;
    private static final int MOST_KEPT = 8;

    private static final int LEAST_PAGE = 20;
    private static final int LARGEST_PAGE = 200;
    private static final int FIRST_PAGE = 100;
    private static final int LARGEST_SIDE = 12;
    private static final int LARGEST_WORTH = 9;
    private static final int LARGEST_GROUP = 9;

    private static final int FIELDS = 5;
    private static final int WIDTH = 0;
    private static final int HEIGHT = 1;
    private static final int WORTH = 2;
    private static final int KIND = 3;
    private static final int GROUP = 4;
    private static final int PLAIN = 0;
    private static final int WIDE = 1;

    private static final int NO_CUT = 0;
    private static final int ACROSS = 1;
    private static final int DOWN = 2;

    private static final int LEAF_FIELDS = 3;

    private final Album album = new Album();
    private final Album before = new Album();
    private final History history = new History();
    private final Sheet sheet = new Sheet();
    private Book present = new Book();
    private Book former = new Book();
    private boolean everChanged = false;

    public AlbumSetter() {
    }

    public boolean page(int w, int h) {
        if (!within(w, LEAST_PAGE, LARGEST_PAGE) || !within(h, LEAST_PAGE, LARGEST_PAGE)) {
            return false;
        }
        beginCall();
        album.pageWidth = w;
        album.pageHeight = h;
        return true;
    }

    public int picture(int w, int h, int worth, int kind, int group) {
        if (album.count >= MOST_PICTURES || !canBePicture(w, h, worth, kind, group)) {
            return NONE;
        }
        beginCall();
        int number = album.count;
        album.count++;
        album.write(number, w, h, worth, kind, group);
        return number;
    }

    public boolean change(int i, int w, int h, int worth, int kind, int group) {
        if (!album.has(i) || !canBePicture(w, h, worth, kind, group)) {
            return false;
        }
        beginCall();
        album.write(i, w, h, worth, kind, group);
        return true;
    }

    public boolean swap(int i, int j) {
        if (!album.has(i) || !album.has(j)) {
            return false;
        }
        beginCall();
        album.exchange(i, j);
        return true;
    }

    public boolean drop(int i) {
        if (!album.has(i)) {
            return false;
        }
        beginCall();
        album.remove(i);
        return true;
    }

    public int about(int what) {
        switch (what) {
            case 0:
                return album.count;
            case 1:
                return album.pageWidth;
            case 2:
                return album.pageHeight;
            default:
                return what < 10 ? NONE : album.number((what - 10) / 10, what % 10);
        }
    }

    public int trees(int n) {
        return within(n, 1, MOST_ON_PAGE) ? Tree.howMany(n) : NONE;
    }

    public int tree(int n, int k, int i) {
        if (k < 0 || k >= Tree.howMany(n)) {
            return NONE;
        }
        if (i == -1) {
            return Tree.cutOf(n, k);
        }
        int size = Tree.partSize(Tree.rowOf(n, k), i);
        return size > 0 ? size : NONE;
    }

    public long shape(int from, int n, int k, int what) {
        if (!within(what, 0, 1) || !sheet.take(album, from, n) || !sheet.lay(k)) {
            return NONE;
        }
        return sheet.reducedSide(what);
    }

    public int side(int from, int n, int k, int i, int what) {
        if (!within(i, 0, n - 1) || !within(what, 0, 3) || !sheet.take(album, from, n) || !sheet.lay(k)) {
            return NONE;
        }
        return sheet.edge(i, what);
    }

    public int cost(int from, int n, int k) {
        return sheet.take(album, from, n) && sheet.lay(k) ? sheet.expense() : NONE;
    }

    public int best(int from, int n) {
        return sheet.layBest(album, from, n);
    }

    public int book() {
        present.make(album, sheet);
        return present.expense();
    }

    public int pages() {
        present.make(album, sheet);
        return present.exists() ? present.pageCount : NONE;
    }

    public int leaf(int p, int what) {
        present.make(album, sheet);
        return present.leafField(p, what);
    }

    public int pageOf(int i) {
        present.make(album, sheet);
        return present.pageWith(i);
    }

    public int books() {
        present.make(album, sheet);
        return present.exists() ? present.howMany() : NONE;
    }

    public int changed() {
        if (!everChanged) {
            return NONE;
        }
        former.make(before, sheet);
        present.make(album, sheet);
        return former.exists() && present.exists() ? present.firstUnlike(former) : 0;
    }

    public boolean undo() {
        if (history.isEmpty()) {
            return false;
        }
        beginChange();
        history.takeBack(album);
        return true;
    }

    private void beginCall() {
        history.keep(album);
        beginChange();
    }

    /** Books are made only when one is asked for, so the album before the change is kept along with its book. */
    private void beginChange() {
        before.become(album);
        Book spare = former;
        former = present;
        present = spare;
        present.forget();
        everChanged = true;
    }

    private static boolean canBePicture(int w, int h, int worth, int kind, int group) {
        return within(w, 1, LARGEST_SIDE) && within(h, 1, LARGEST_SIDE) && within(worth, 1, LARGEST_WORTH)
                && within(kind, PLAIN, WIDE) && within(group, 0, LARGEST_GROUP);
    }

    private static boolean within(int number, int least, int most) {
        return number >= least && number <= most;
    }

    private static int at(int[] row, int i) {
        return i >= 0 && i < row.length ? row[i] : 0;
    }

    private static void put(int[] row, int i, int number) {
        if (i >= 0 && i < row.length) {
            row[i] = number;
        }
    }

    /** The pictures in their order and the page: all that a change changes. */
    private static final class Album {
        private final int[] numbers = new int[MOST_PICTURES * FIELDS];
        private int count = 0;
        private int pageWidth = FIRST_PAGE;
        private int pageHeight = FIRST_PAGE;

        boolean has(int i) {
            return i >= 0 && i < count;
        }

        int number(int i, int field) {
            if (i < 0 || i >= count || field < 0 || field >= FIELDS) {
                return NONE;
            }
            int spot = i * FIELDS + field;
            return spot >= 0 && spot < numbers.length ? numbers[spot] : NONE;
        }

        boolean isWide(int i) {
            return number(i, KIND) == WIDE;
        }

        boolean isPlain(int i) {
            return number(i, KIND) == PLAIN;
        }

        /** Whether a page may end ahead of picture i: two plain neighbours of one group stay together. */
        boolean mayBreakAhead(int i) {
            int group = number(i, GROUP);
            return group <= 0 || group != number(i - 1, GROUP) || !isPlain(i) || !isPlain(i - 1);
        }

        void write(int i, int w, int h, int worth, int kind, int group) {
            int spot = i * FIELDS;
            put(numbers, spot + WIDTH, w);
            put(numbers, spot + HEIGHT, h);
            put(numbers, spot + WORTH, worth);
            put(numbers, spot + KIND, kind);
            put(numbers, spot + GROUP, group);
        }

        void exchange(int i, int j) {
            for (int field = 0; field < FIELDS; field++) {
                int ofI = number(i, field);
                put(numbers, i * FIELDS + field, number(j, field));
                put(numbers, j * FIELDS + field, ofI);
            }
        }

        void remove(int i) {
            for (int spot = i * FIELDS; spot < (count - 1) * FIELDS; spot++) {
                put(numbers, spot, at(numbers, spot + FIELDS));
            }
            count--;
        }

        void become(Album other) {
            count = other.count;
            pageWidth = other.pageWidth;
            pageHeight = other.pageHeight;
            for (int spot = 0; spot < numbers.length; spot++) {
                numbers[spot] = at(other.numbers, spot);
            }
        }
    }

    /** The albums ahead of the latest calls, in a ring: the newest goes where the oldest was. */
    private static final class History {
        private final Album[] ring = new Album[MOST_KEPT];
        private int kept = 0;
        private int next = 0;

        History() {
            for (int i = 0; i < ring.length; i++) {
                ring[i] = new Album();
            }
        }

        boolean isEmpty() {
            return kept == 0;
        }

        void keep(Album album) {
            Album slot = slotAt(next);
            if (slot != null) {
                slot.become(album);
                next = (next + 1) % MOST_KEPT;
                kept = Math.min(kept + 1, MOST_KEPT);
            }
        }

        void takeBack(Album album) {
            int latest = (next + MOST_KEPT - 1) % MOST_KEPT;
            Album slot = slotAt(latest);
            if (slot != null) {
                album.become(slot);
                next = latest;
                kept--;
            }
        }

        private Album slotAt(int i) {
            return i >= 0 && i < ring.length ? ring[i] : null;
        }
    }

    /**
     * A picture's place in a tree, or a cut with its parts. Everything is counted in whole numbers:
     * the sides in the node's shape, and where it lies in parts of a point, of which each direction
     * has its own number to the point. With four pictures all of it stays far below a long's end.
     */
    private static final class Node {
        private final int size;
        private final int cut;
        private final int row;
        private final int start;
        private Node firstPart = null;
        private Node nextPart = null;
        private Node ahead = null;
        private Node behind = null;
        private long width = 0;
        private long height = 0;
        private long left = 0;
        private long across = 0;
        private long acrossPoint = 1;
        private long top = 0;
        private long down = 0;
        private long downPoint = 1;

        Node(int size, int cut, int row, int start) {
            this.size = size;
            this.cut = cut;
            this.row = row;
            this.start = start;
        }

        /** The sides from the parts' sides: parts across have one height in common, parts down one width. */
        void measure() {
            width = cut == ACROSS ? 0 : 1;
            height = cut == ACROSS ? 1 : 0;
            for (Node part = firstPart; part != null; part = part.nextPart) {
                if (cut == ACROSS) {
                    width = width * part.height + part.width * height;
                    height *= part.height;
                } else {
                    height = height * part.width + part.height * width;
                    width *= part.width;
                }
            }
        }

        /** As large as can be on the page, in its shape. */
        void placeOnPage(int pageWidth, int pageHeight) {
            boolean full = pageWidth * height <= pageHeight * width;
            across = full ? pageWidth : pageHeight * width;
            acrossPoint = full ? 1 : height;
            down = full ? pageWidth * height : pageHeight;
            downPoint = full ? width : 1;
        }

        void placeAcross() {
            long passed = 0;
            for (Node part = firstPart; part != null; part = part.nextPart) {
                long share = part.height > 0 ? height / part.height * part.width : 0;
                part.left = left * width + across * passed;
                part.across = across * share;
                part.acrossPoint = acrossPoint * width;
                part.top = top;
                part.down = down;
                part.downPoint = downPoint;
                passed += share;
            }
        }

        void placeDown() {
            long passed = 0;
            for (Node part = firstPart; part != null; part = part.nextPart) {
                long share = part.width > 0 ? width / part.width * part.height : 0;
                part.top = top * height + down * passed;
                part.down = down * share;
                part.downPoint = downPoint * height;
                part.left = left;
                part.across = across;
                part.acrossPoint = acrossPoint;
                passed += share;
            }
        }
    }

    /**
     * A tree: a chain of nodes, the whole first and every cut ahead of its parts. Trees of the two
     * cuts are alike but for the cut, so the tables hold the trees of one cut alone.
     */
    private static final class Tree {
        /** Four pictures, and three cuts at most above them. */
        private static final int MOST_NODES = 7;
        /** By the number of pictures: how many trees one cut has, and where their rows begin. */
        private static final int[] ONE_CUT_TREES = {0, 1, 1, 3, 11};
        private static final int[] FIRST_ROW = {0, 0, 1, 2, 5};
        /** Four numbers a row: how many pictures each part has, 0 behind the last part. */
        private static final int[] PART_SIZES = {
            0, 0, 0, 0,
            1, 1, 0, 0,
            1, 1, 1, 0,
            1, 2, 0, 0,
            2, 1, 0, 0,
            1, 1, 1, 1,
            1, 1, 2, 0,
            1, 2, 1, 0,
            1, 3, 0, 0,
            1, 3, 0, 0,
            1, 3, 0, 0,
            2, 1, 1, 0,
            2, 2, 0, 0,
            3, 1, 0, 0,
            3, 1, 0, 0,
            3, 1, 0, 0,
        };
        /** A number a row: which tree of its cut a part of three is; smaller parts have but one. */
        private static final int[] TREE_OF_THREE = {0, 0, 0, 0, 0, 0, 0, 0, 0, 1, 2, 0, 0, 0, 1, 2};

        private final Node whole;
        private Node last;

        Tree(int n, int k) {
            whole = new Node(n, cutOf(n, k), rowOf(n, k), 0);
            last = whole;
            Node node = whole;
            for (int step = 0; step < MOST_NODES && node != null; step++) {
                split(node);
                node = node.behind;
            }
        }

        static int howMany(int n) {
            int ofOneCut = at(ONE_CUT_TREES, n);
            return n == 1 ? ofOneCut : 2 * ofOneCut;
        }

        static int cutOf(int n, int k) {
            if (n == 1) {
                return NO_CUT;
            }
            return k < at(ONE_CUT_TREES, n) ? ACROSS : DOWN;
        }

        static int rowOf(int n, int k) {
            int ofOneCut = at(ONE_CUT_TREES, n);
            return ofOneCut > 0 ? at(FIRST_ROW, n) + k % ofOneCut : 0;
        }

        /** How many pictures part i has in that row; 0 if there is no such part. */
        static int partSize(int row, int i) {
            return within(i, 0, MOST_ON_PAGE - 1) ? at(PART_SIZES, row * MOST_ON_PAGE + i) : 0;
        }

        private void split(Node node) {
            int partCut = node.cut == ACROSS ? DOWN : ACROSS;
            int start = node.start;
            Node former = null;
            for (int i = 0; i < MOST_ON_PAGE; i++) {
                int size = partSize(node.row, i);
                if (size > 0) {
                    int row = at(FIRST_ROW, size) + (size == 3 ? at(TREE_OF_THREE, node.row) : 0);
                    Node part = new Node(size, size == 1 ? NO_CUT : partCut, row, start);
                    if (former == null) {
                        node.firstPart = part;
                    } else {
                        former.nextPart = part;
                    }
                    former = part;
                    part.ahead = last;
                    last.behind = part;
                    last = part;
                    start += size;
                }
            }
        }
    }

    /** All trees, each made once, and some pictures laid on a page by one of them. */
    private static final class Sheet {
        private static final int ALL_TREES = 31;
        private static final int[] FIRST_TREE = {0, 0, 1, 3, 9};

        private final Tree[] forest = new Tree[ALL_TREES];
        private final int[] widths = new int[MOST_ON_PAGE];
        private final int[] heights = new int[MOST_ON_PAGE];
        private final int[] worths = new int[MOST_ON_PAGE];
        private final int[] areas = new int[MOST_ON_PAGE];
        private final int[] edges = new int[4 * MOST_ON_PAGE];
        private int count = 0;
        private int pageWidth = 0;
        private int pageHeight = 0;
        private int leastExpense = 0;
        private long shapeAbove = 1;
        private long shapeBelow = 1;

        Sheet() {
            for (int n = 1; n <= MOST_ON_PAGE; n++) {
                int all = Tree.howMany(n);
                for (int k = 0; k < all; k++) {
                    int spot = at(FIRST_TREE, n) + k;
                    if (spot >= 0 && spot < forest.length) {
                        forest[spot] = new Tree(n, k);
                    }
                }
            }
        }

        /** Takes n pictures from one on, with their page; false if they can't be on one. */
        boolean take(Album album, int from, int n) {
            if (!within(n, 1, MOST_ON_PAGE) || from < 0 || from > album.count - n) {
                return false;
            }
            for (int i = 0; i < n; i++) {
                if (n > 1 && !album.isPlain(from + i)) {
                    return false;
                }
                put(widths, i, album.number(from + i, WIDTH));
                put(heights, i, album.number(from + i, HEIGHT));
                put(worths, i, album.number(from + i, WORTH));
            }
            count = n;
            pageWidth = album.isWide(from) ? 2 * album.pageWidth : album.pageWidth;
            pageHeight = album.pageHeight;
            return true;
        }

        /** Lays the pictures taken by tree k; false if they have none such. */
        boolean lay(int k) {
            Tree tree = k >= 0 && k < Tree.howMany(count) ? treeAt(at(FIRST_TREE, count) + k) : null;
            if (tree == null) {
                return false;
            }
            for (Node node = tree.last; node != null; node = node.ahead) {
                if (node.cut == NO_CUT) {
                    node.width = at(widths, node.start);
                    node.height = at(heights, node.start);
                } else {
                    node.measure();
                }
            }
            shapeAbove = tree.whole.width;
            shapeBelow = tree.whole.height;
            tree.whole.placeOnPage(pageWidth, pageHeight);
            for (Node node = tree.whole; node != null; node = node.behind) {
                if (node.cut == ACROSS) {
                    node.placeAcross();
                } else if (node.cut == DOWN) {
                    node.placeDown();
                } else {
                    layEdges(node);
                }
            }
            return true;
        }

        /** The first tree with the least expense, which leastExpense then holds; NONE if there is none. */
        int layBest(Album album, int from, int n) {
            if (!take(album, from, n)) {
                return NONE;
            }
            int first = NONE;
            int all = Tree.howMany(n);
            for (int k = 0; k < all; k++) {
                int expense = lay(k) ? expense() : NONE;
                if (expense != NONE && (first == NONE || expense < leastExpense)) {
                    first = k;
                    leastExpense = expense;
                }
            }
            return first;
        }

        int edge(int i, int what) {
            return at(edges, 4 * i + what);
        }

        int expense() {
            int points = 0;
            int worth = 0;
            for (int i = 0; i < count; i++) {
                points += at(areas, i);
                worth += at(worths, i);
            }
            int unlikeness = 0;
            for (int i = 0; i < count; i++) {
                unlikeness += Math.abs(at(areas, i) * worth - points * at(worths, i));
            }
            return pageWidth * pageHeight - points + (worth > 0 ? unlikeness / worth : 0);
        }

        /** A side of the whole tree's shape without a common divisor: 0 above, 1 below. */
        long reducedSide(int what) {
            long divisor = shapeAbove;
            long rest = shapeBelow;
            for (int step = 0; step < 200 && rest > 0; step++) {
                long next = divisor % rest;
                divisor = rest;
                rest = next;
            }
            long side = what == 0 ? shapeAbove : shapeBelow;
            return divisor > 0 ? side / divisor : NONE;
        }

        private Tree treeAt(int spot) {
            return spot >= 0 && spot < forest.length ? forest[spot] : null;
        }

        private void layEdges(Node node) {
            int left = nearest(node.left, node.acrossPoint);
            int top = nearest(node.top, node.downPoint);
            int right = nearest(node.left + node.across, node.acrossPoint);
            int low = nearest(node.top + node.down, node.downPoint);
            int spot = 4 * node.start;
            put(edges, spot, left);
            put(edges, spot + 1, top);
            put(edges, spot + 2, right);
            put(edges, spot + 3, low);
            put(areas, node.start, (right - left) * (low - top));
        }

        /** The nearest whole point, halves upwards. */
        private static int nearest(long length, long point) {
            return point > 0 ? (int) ((2 * length + point) / (2 * point)) : 0;
        }
    }

    /**
     * The book of an album. What can come from a picture on depends only on whether its page is
     * even or odd, so rows of two hold, for each picture and one behind the last: the least
     * expense from there on (NONE if nothing can be), how many ways have it, and how many pictures
     * the first page of the first way has.
     */
    private static final class Book {
        private final int[] least = new int[2 * (MOST_PICTURES + 1)];
        private final int[] ways = new int[2 * (MOST_PICTURES + 1)];
        private final int[] takes = new int[2 * (MOST_PICTURES + 1)];
        private final int[] bestTrees = new int[MOST_PICTURES * (MOST_ON_PAGE + 1)];
        private final int[] leaves = new int[MOST_PAGES * LEAF_FIELDS];
        private final int[] pageOfPicture = new int[MOST_PICTURES];
        private int pictures = 0;
        private int pageCount = 0;
        private boolean made = false;

        void forget() {
            made = false;
        }

        void make(Album album, Sheet sheet) {
            if (made) {
                return;
            }
            made = true;
            pictures = album.count;
            beginSpot(2 * pictures, 0, 1);
            beginSpot(2 * pictures + 1, 0, 1);
            for (int i = pictures - 1; i >= 0; i--) {
                beginSpot(2 * i, NONE, 0);
                beginSpot(2 * i + 1, NONE, 0);
                if (album.isWide(i)) {
                    weighWide(album, sheet, i);
                } else {
                    weighPlain(album, sheet, i);
                }
            }
            setOut(album);
        }

        boolean exists() {
            return least[0] != NONE;
        }

        int expense() {
            return least[0];
        }

        int howMany() {
            return ways[0];
        }

        int leafField(int p, int field) {
            if (p < 0 || p >= pageCount || field < 0 || field >= LEAF_FIELDS) {
                return NONE;
            }
            return at(leaves, p * LEAF_FIELDS + field);
        }

        int pageWith(int i) {
            return exists() && i >= 0 && i < pictures ? at(pageOfPicture, i) : NONE;
        }

        /** The first page that the other book has otherwise, as leaf() tells pages. */
        int firstUnlike(Book other) {
            int both = Math.min(pageCount, other.pageCount);
            for (int p = 0; p < both; p++) {
                for (int field = 0; field < LEAF_FIELDS; field++) {
                    if (leafField(p, field) != other.leafField(p, field)) {
                        return p;
                    }
                }
            }
            return both;
        }

        private void beginSpot(int spot, int expense, int count) {
            put(least, spot, expense);
            put(ways, spot, count);
            put(takes, spot, 0);
        }

        private void weighWide(Album album, Sheet sheet, int i) {
            sheet.layBest(album, i, 1);
            int behind = 2 * (i + 1);
            offer(2 * i, 1, sheet.leastExpense, behind);
            offer(2 * i + 1, 1, sheet.leastExpense + album.pageWidth * album.pageHeight, behind);
        }

        /** Fewer pictures are offered first, so that of like books the first stays. */
        private void weighPlain(Album album, Sheet sheet, int i) {
            for (int n = 1; n <= MOST_ON_PAGE; n++) {
                if (!album.mayBreakAhead(i + n)) {
                    continue;
                }
                int best = sheet.layBest(album, i, n);
                if (best == NONE) {
                    return;
                }
                put(bestTrees, i * (MOST_ON_PAGE + 1) + n, best);
                offer(2 * i, n, sheet.leastExpense, 2 * (i + n) + 1);
                offer(2 * i + 1, n, sheet.leastExpense, 2 * (i + n));
            }
        }

        private void offer(int spot, int n, int expense, int behind) {
            int rest = at(least, behind);
            if (rest == NONE) {
                return;
            }
            int sum = expense + rest;
            int known = at(least, spot);
            if (known == NONE || sum < known) {
                put(least, spot, sum);
                put(ways, spot, at(ways, behind));
                put(takes, spot, n);
            } else if (sum == known) {
                put(ways, spot, at(ways, spot) + at(ways, behind));
            }
        }

        private void setOut(Album album) {
            pageCount = 0;
            int i = 0;
            for (int step = 0; step < MOST_PICTURES && exists() && i < pictures; step++) {
                boolean wide = album.isWide(i);
                if (wide && pageCount % 2 == 1) {
                    addLeaf(0, NONE, NONE);
                }
                int n = at(takes, 2 * i + pageCount % 2);
                int tree = wide ? 0 : at(bestTrees, i * (MOST_ON_PAGE + 1) + n);
                for (int k = 0; k < n; k++) {
                    put(pageOfPicture, i + k, pageCount);
                }
                addLeaf(n, i, tree);
                if (wide) {
                    addLeaf(n, i, tree);
                }
                i += n;
            }
        }

        private void addLeaf(int n, int first, int tree) {
            int spot = pageCount * LEAF_FIELDS;
            put(leaves, spot, n);
            put(leaves, spot + 1, first);
            put(leaves, spot + 2, tree);
            pageCount++;
        }
    }
}
