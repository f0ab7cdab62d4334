/**
 * Sets an album: pictures in their order on pages by trees of cuts, and the book's breaks at the
 * least cost of all. The document is ../shared/DOC.md; words in capitals there are plain here.
 */
public final class AlbumSetter {
    public static final int NONE = -1;

    private static final int MOST_PICTURES = 12;
    private static final int MOST_ON_PAGE = 4;
    /** A picture brings two pages at most: a wide one its spread, a plain one its own and an empty one. */
    private static final int MOST_PAGES = 2 * MOST_PICTURES;
    private static final int MOST_KEPT = 8;

    private static final int LEAST_PAGE = 20;
    private static final int LARGEST_PAGE = 200;
    private static final int FIRST_PAGE = 100;
    private static final int LARGEST_SIDE = 12;
    private static final int LARGEST_WORTH = 9;
    private static final int LARGEST_GROUP = 9;

    private static final int FIELDS = 5;
    private static final int WIDTH = 0;
    private static final int HEIGHT = 1;
    private static final int WORTH = 2;
    private static final int KIND = 3;
    private static final int GROUP = 4;
    private static final int PLAIN = 0;
    private static final int WIDE = 1;

    private static final int NO_CUT = 0;
    private static final int ACROSS = 1;
    private static final int DOWN = 2;

    private static final int LEAF_FIELDS = 3;

    private final Album album = new Album();
    private final Album before = new Album();
    private final History history = new History();
    private final Sheet sheet = new Sheet();
    private Book present = new Book();
    private Book former = new Book();
    private boolean everChanged = false;

    public AlbumSetter() {
    }

    public boolean page(int w, int h) {
        if (!within(w, LEAST_PAGE, LARGEST_PAGE) || !within(h, LEAST_PAGE, LARGEST_PAGE)) {
            return false;
        }
        beginCall();
        album.pageWidth = w;
        album.pageHeight = h;
        return true;
    }

    public int picture(int w, int h, int worth, int kind, int group) {
        if (album.count >= MOST_PICTURES || !canBePicture(w, h, worth, kind, group)) {
            return NONE;
        }
        beginCall();
        int number = album.count;
        album.count++;
        album.write(number, w, h, worth, kind, group);
        return number;
    }

    public boolean change(int i, int w, int h, int worth, int kind, int group) {
        if (!album.has(i) || !canBePicture(w, h, worth, kind, group)) {
            return false;
        }
        beginCall();
        album.write(i, w, h, worth, kind, group);
        return true;
    }

    public boolean swap(int i, int j) {
        if (!album.has(i) || !album.has(j)) {
            return false;
        }
        beginCall();
        album.exchange(i, j);
        return true;
    }

    public boolean drop(int i) {
        if (!album.has(i)) {
            return false;
        }
        beginCall();
        album.remove(i);
        return true;
    }

    public int about(int what) {
        switch (what) {
            case 0:
                return album.count;
            case 1:
                return album.pageWidth;
            case 2:
                return album.pageHeight;
            default:
                return what < 10 ? NONE : album.number((what - 10) / 10, what % 10);
        }
    }

    public int trees(int n) {
        return within(n, 1, MOST_ON_PAGE) ? Tree.howMany(n) : NONE;
    }

    public int tree(int n, int k, int i) {
        if (k < 0 || k >= Tree.howMany(n)) {
            return NONE;
        }
        if (i == -1) {
            return Tree.cutOf(n, k);
        }
        int size = Tree.partSize(Tree.rowOf(n, k), i);
        return size > 0 ? size : NONE;
    }

    public long shape(int from, int n, int k, int what) {
        if (!within(what, 0, 1) || !sheet.take(album, from, n) || !sheet.lay(k)) {
            return NONE;
        }
        return sheet.reducedSide(what);
    }

    public int side(int from, int n, int k, int i, int what) {
        if (!within(i, 0, n - 1) || !within(what, 0, 3) || !sheet.take(album, from, n) || !sheet.lay(k)) {
            return NONE;
        }
        return sheet.edge(i, what);
    }

    public int cost(int from, int n, int k) {
        return sheet.take(album, from, n) && sheet.lay(k) ? sheet.expense() : NONE;
    }

    public int best(int from, int n) {
        return sheet.layBest(album, from, n);
    }

    public int book() {
        present.make(album, sheet);
        return present.expense();
    }

    public int pages() {
        present.make(album, sheet);
        return present.exists() ? present.pageCount : NONE;
    }

    public int leaf(int p, int what) {
        present.make(album, sheet);
        return present.leafField(p, what);
    }

    public int pageOf(int i) {
        present.make(album, sheet);
        return present.pageWith(i);
    }

    public int books() {
        present.make(album, sheet);
        return present.exists() ? present.howMany() : NONE;
    }

    public int changed() {
        if (!everChanged) {
            return NONE;
        }
        former.make(before, sheet);
        present.make(album, sheet);
        return former.exists() && present.exists() ? present.firstUnlike(former) : 0;
    }

    public boolean undo() {
        if (history.isEmpty()) {
            return false;
        }
        beginChange();
        history.takeBack(album);
        return true;
    }

    private void beginCall() {
        history.keep(album);
        beginChange();
    }

    /** Books are made only when one is asked for, so the album before the change is kept along with its book. */
    private void beginChange() {
        before.become(album);
        Book spare = former;
        former = present;
        present = spare;
        present.forget();
        everChanged = true;
    }

    private static boolean canBePicture(int w, int h, int worth, int kind, int group) {
        return within(w, 1, LARGEST_SIDE) && within(h, 1, LARGEST_SIDE) && within(worth, 1, LARGEST_WORTH)
                && within(kind, PLAIN, WIDE) && within(group, 0, LARGEST_GROUP);
    }

    private static boolean within(int number, int least, int most) {
        return number >= least && number <= most;
    }

    private static int at(int[] row, int i) {
        return i >= 0 && i < row.length ? row[i] : 0;
    }

    private static long at(long[] row, int i) {
        return i >= 0 && i < row.length ? row[i] : 0L;
    }

    private static void put(int[] row, int i, int number) {
        if (i >= 0 && i < row.length) {
            row[i] = number;
        }
    }

    private static void put(long[] row, int i, long number) {
        if (i >= 0 && i < row.length) {
            row[i] = number;
        }
    }

    /** The pictures in their order and the page: all that a change changes. */
    private static final class Album {
        private final int[] numbers = new int[MOST_PICTURES * FIELDS];
        private int count = 0;
        private int pageWidth = FIRST_PAGE;
        private int pageHeight = FIRST_PAGE;

        boolean has(int i) {
            return i >= 0 && i < count;
        }

        int number(int i, int field) {
            if (i < 0 || i >= count || field < 0 || field >= FIELDS) {
                return NONE;
            }
            int spot = i * FIELDS + field;
            return spot >= 0 && spot < numbers.length ? numbers[spot] : NONE;
        }

        boolean isWide(int i) {
            return number(i, KIND) == WIDE;
        }

        boolean isPlain(int i) {
            return number(i, KIND) == PLAIN;
        }

        /** Whether a page may end ahead of picture i: two plain neighbours of one group stay together. */
        boolean mayBreakAhead(int i) {
            int group = number(i, GROUP);
            return group <= 0 || group != number(i - 1, GROUP) || !isPlain(i) || !isPlain(i - 1);
        }

        void write(int i, int w, int h, int worth, int kind, int group) {
            int spot = i * FIELDS;
            put(numbers, spot + WIDTH, w);
            put(numbers, spot + HEIGHT, h);
            put(numbers, spot + WORTH, worth);
            put(numbers, spot + KIND, kind);
            put(numbers, spot + GROUP, group);
        }

        void exchange(int i, int j) {
            for (int field = 0; field < FIELDS; field++) {
                int ofI = number(i, field);
                put(numbers, i * FIELDS + field, number(j, field));
                put(numbers, j * FIELDS + field, ofI);
            }
        }

        void remove(int i) {
            for (int spot = i * FIELDS; spot < (count - 1) * FIELDS; spot++) {
                put(numbers, spot, at(numbers, spot + FIELDS));
            }
            count--;
        }

        void become(Album other) {
            count = other.count;
            pageWidth = other.pageWidth;
            pageHeight = other.pageHeight;
            for (int spot = 0; spot < numbers.length; spot++) {
                numbers[spot] = at(other.numbers, spot);
            }
        }
    }

    /** The albums ahead of the latest calls, in a ring: the newest goes where the oldest was. */
    private static final class History {
        private final Album[] ring = new Album[MOST_KEPT];
        private int kept = 0;
        private int next = 0;

        History() {
            for (int i = 0; i < ring.length; i++) {
                ring[i] = new Album();
            }
        }

        boolean isEmpty() {
            return kept == 0;
        }

        void keep(Album album) {
            Album slot = slotAt(next);
            if (slot != null) {
                slot.become(album);
                next = (next + 1) % MOST_KEPT;
                kept = Math.min(kept + 1, MOST_KEPT);
            }
        }

        void takeBack(Album album) {
            int latest = (next + MOST_KEPT - 1) % MOST_KEPT;
            Album slot = slotAt(latest);
            if (slot != null) {
                album.become(slot);
                next = latest;
                kept--;
            }
        }

        private Album slotAt(int i) {
            return i >= 0 && i < ring.length ? ring[i] : null;
        }
    }

    /**
     * The nodes of one tree: node 0 is the whole, and the parts of a node stand one behind the
     * other, behind the node itself. Trees of the two cuts are alike but for the cut, so the
     * tables hold the trees of one cut alone.
     */
    private static final class Tree {
        /** Four pictures, and three cuts at most above them. */
        private static final int MOST_NODES = 7;
        /** By the number of pictures: how many trees one cut has, and where their rows begin. */
        private static final int[] ONE_CUT_TREES = {0, 1, 1, 3, 11};
        private static final int[] FIRST_ROW = {0, 0, 1, 2, 5};
        /** Four numbers a row: how many pictures each part has, 0 behind the last part. */
        private static final int[] PART_SIZES = {
            0, 0, 0, 0,
            1, 1, 0, 0,
            1, 1, 1, 0,
            1, 2, 0, 0,
            2, 1, 0, 0,
            1, 1, 1, 1,
            1, 1, 2, 0,
            1, 2, 1, 0,
            1, 3, 0, 0,
            1, 3, 0, 0,
            1, 3, 0, 0,
            2, 1, 1, 0,
            2, 2, 0, 0,
            3, 1, 0, 0,
            3, 1, 0, 0,
            3, 1, 0, 0,
        };
        /** A number a row: which tree of its cut a part of three is; smaller parts have but one. */
        private static final int[] TREE_OF_THREE = {0, 0, 0, 0, 0, 0, 0, 0, 0, 1, 2, 0, 0, 0, 1, 2};

        private final int[] sizes = new int[MOST_NODES];
        private final int[] cuts = new int[MOST_NODES];
        private final int[] rows = new int[MOST_NODES];
        private final int[] starts = new int[MOST_NODES];
        private final int[] firstParts = new int[MOST_NODES];
        private final int[] endParts = new int[MOST_NODES];
        private int nodes = 0;

        static int howMany(int n) {
            int ofOneCut = at(ONE_CUT_TREES, n);
            return n == 1 ? ofOneCut : 2 * ofOneCut;
        }

        static int cutOf(int n, int k) {
            if (n == 1) {
                return NO_CUT;
            }
            return k < at(ONE_CUT_TREES, n) ? ACROSS : DOWN;
        }

        static int rowOf(int n, int k) {
            int ofOneCut = at(ONE_CUT_TREES, n);
            return ofOneCut > 0 ? at(FIRST_ROW, n) + k % ofOneCut : 0;
        }

        /** How many pictures part i has in that row; 0 if there is no such part. */
        static int partSize(int row, int i) {
            return within(i, 0, MOST_ON_PAGE - 1) ? at(PART_SIZES, row * MOST_ON_PAGE + i) : 0;
        }

        void plant(int n, int k) {
            nodes = 0;
            addNode(n, cutOf(n, k), rowOf(n, k), 0);
            for (int node = 0; node < nodes && node < MOST_NODES; node++) {
                split(node);
            }
        }

        private void split(int node) {
            put(firstParts, node, nodes);
            int row = at(rows, node);
            int start = at(starts, node);
            int partCut = at(cuts, node) == ACROSS ? DOWN : ACROSS;
            for (int i = 0; i < MOST_ON_PAGE; i++) {
                int size = at(PART_SIZES, row * MOST_ON_PAGE + i);
                if (size > 0) {
                    int partRow = at(FIRST_ROW, size) + (size == 3 ? at(TREE_OF_THREE, row) : 0);
                    addNode(size, size == 1 ? NO_CUT : partCut, partRow, start);
                    start += size;
                }
            }
            put(endParts, node, nodes);
        }

        private void addNode(int size, int cut, int row, int start) {
            if (nodes < 0 || nodes >= MOST_NODES) {
                return;
            }
            sizes[nodes] = size;
            cuts[nodes] = cut;
            rows[nodes] = row;
            starts[nodes] = start;
            nodes++;
        }
    }

    /**
     * Some pictures laid on a page by a tree. Everything is counted in whole numbers: of a node
     * the two sides in its shape (rows of two, along the width and along the height), and where it
     * begins and how long it is there, both in parts of a point, of which each node and direction
     * has its own number to the point. With four pictures all of it stays far below a long's end.
     */
    private static final class Sheet {
        private final Tree tree = new Tree();
        private final int[] pictureSides = new int[2 * MOST_ON_PAGE];
        private final int[] worths = new int[MOST_ON_PAGE];
        private final long[] sides = new long[2 * Tree.MOST_NODES];
        private final long[] begins = new long[2 * Tree.MOST_NODES];
        private final long[] lengths = new long[2 * Tree.MOST_NODES];
        private final long[] perPoint = new long[2 * Tree.MOST_NODES];
        private final int[] edges = new int[4 * MOST_ON_PAGE];
        private int count = 0;
        private int pageWidth = 0;
        private int pageHeight = 0;
        private int leastExpense = 0;

        /** Takes n pictures from one on, with their page; false if they can't be on one. */
        boolean take(Album album, int from, int n) {
            if (!within(n, 1, MOST_ON_PAGE) || from < 0 || from > album.count - n) {
                return false;
            }
            for (int i = 0; i < n; i++) {
                if (n > 1 && !album.isPlain(from + i)) {
                    return false;
                }
                put(pictureSides, 2 * i, album.number(from + i, WIDTH));
                put(pictureSides, 2 * i + 1, album.number(from + i, HEIGHT));
                put(worths, i, album.number(from + i, WORTH));
            }
            count = n;
            pageWidth = album.isWide(from) ? 2 * album.pageWidth : album.pageWidth;
            pageHeight = album.pageHeight;
            return true;
        }

        /** Lays the pictures taken by tree k; false if they have none such. */
        boolean lay(int k) {
            if (k < 0 || k >= Tree.howMany(count)) {
                return false;
            }
            tree.plant(count, k);
            for (int node = tree.nodes - 1; node >= 0; node--) {
                measure(node);
            }
            placeWhole();
            for (int node = 0; node < tree.nodes; node++) {
                if (at(tree.sizes, node) > 1) {
                    placeParts(node);
                } else {
                    layEdges(node);
                }
            }
            return true;
        }

        /** The first tree with the least expense, which leastExpense then holds; NONE if there is none. */
        int layBest(Album album, int from, int n) {
            if (!take(album, from, n)) {
                return NONE;
            }
            int first = NONE;
            int all = Tree.howMany(n);
            for (int k = 0; k < all; k++) {
                int expense = lay(k) ? expense() : NONE;
                if (expense != NONE && (first == NONE || expense < leastExpense)) {
                    first = k;
                    leastExpense = expense;
                }
            }
            return first;
        }

        int edge(int i, int what) {
            return at(edges, 4 * i + what);
        }

        int expense() {
            int points = 0;
            int worth = 0;
            for (int i = 0; i < count; i++) {
                points += area(i);
                worth += at(worths, i);
            }
            int unlikeness = 0;
            for (int i = 0; i < count; i++) {
                unlikeness += Math.abs(area(i) * worth - points * at(worths, i));
            }
            return pageWidth * pageHeight - points + (worth > 0 ? unlikeness / worth : 0);
        }

        /** A side of the whole tree's shape without a common divisor: 0 above, 1 below. */
        long reducedSide(int what) {
            long divisor = at(sides, 0);
            long rest = at(sides, 1);
            for (int step = 0; step < 200 && rest > 0; step++) {
                long next = divisor % rest;
                divisor = rest;
                rest = next;
            }
            return divisor > 0 ? at(sides, what) / divisor : NONE;
        }

        private int area(int i) {
            int spot = 4 * i;
            return (at(edges, spot + 2) - at(edges, spot)) * (at(edges, spot + 3) - at(edges, spot + 1));
        }

        /** Parts that lie along one direction have the other side in common, so their shares can be added. */
        private void measure(int node) {
            if (at(tree.sizes, node) == 1) {
                int picture = at(tree.starts, node);
                put(sides, 2 * node, at(pictureSides, 2 * picture));
                put(sides, 2 * node + 1, at(pictureSides, 2 * picture + 1));
                return;
            }
            int along = at(tree.cuts, node) == ACROSS ? 0 : 1;
            int end = at(tree.endParts, node);
            long common = 1;
            for (int part = at(tree.firstParts, node); part < end; part++) {
                common *= at(sides, 2 * part + 1 - along);
            }
            long sum = 0;
            for (int part = at(tree.firstParts, node); part < end; part++) {
                sum += share(part, along, common);
            }
            put(sides, 2 * node + along, sum);
            put(sides, 2 * node + 1 - along, common);
        }

        /** The part's side along that direction, when its other side is the common one. */
        private long share(int part, int along, long common) {
            long other = at(sides, 2 * part + 1 - along);
            return other > 0 ? at(sides, 2 * part + along) * (common / other) : 0;
        }

        private void placeWhole() {
            long width = at(sides, 0);
            long height = at(sides, 1);
            put(begins, 0, 0L);
            put(begins, 1, 0L);
            if (pageWidth * height <= pageHeight * width) {
                put(lengths, 0, pageWidth);
                put(perPoint, 0, 1L);
                put(lengths, 1, pageWidth * height);
                put(perPoint, 1, width);
            } else {
                put(lengths, 0, pageHeight * width);
                put(perPoint, 0, height);
                put(lengths, 1, pageHeight);
                put(perPoint, 1, 1L);
            }
        }

        private void placeParts(int node) {
            int along = at(tree.cuts, node) == ACROSS ? 0 : 1;
            int own = 2 * node + along;
            int ownOther = 2 * node + 1 - along;
            long whole = at(sides, own);
            long common = at(sides, ownOther);
            long passed = 0;
            int end = at(tree.endParts, node);
            for (int part = at(tree.firstParts, node); part < end; part++) {
                long share = share(part, along, common);
                int spot = 2 * part + along;
                put(begins, spot, at(begins, own) * whole + at(lengths, own) * passed);
                put(lengths, spot, at(lengths, own) * share);
                put(perPoint, spot, at(perPoint, own) * whole);
                passed += share;
                int other = 2 * part + 1 - along;
                put(begins, other, at(begins, ownOther));
                put(lengths, other, at(lengths, ownOther));
                put(perPoint, other, at(perPoint, ownOther));
            }
        }

        private void layEdges(int node) {
            int picture = at(tree.starts, node);
            for (int along = 0; along < 2; along++) {
                int spot = 2 * node + along;
                long begin = at(begins, spot);
                long unit = at(perPoint, spot);
                put(edges, 4 * picture + along, nearest(begin, unit));
                put(edges, 4 * picture + 2 + along, nearest(begin + at(lengths, spot), unit));
            }
        }

        /** The nearest whole point, halves upwards. */
        private static int nearest(long length, long unit) {
            return unit > 0 ? (int) ((2 * length + unit) / (2 * unit)) : 0;
        }
    }

    /**
     * The book of an album. What can come from a picture on depends only on whether its page is
     * even or odd, so rows of two hold, for each picture and one behind the last: the least
     * expense from there on (NONE if nothing can be), how many ways have it, and how many pictures
     * the first page of the first way has.
     */
    private static final class Book {
        private final int[] least = new int[2 * (MOST_PICTURES + 1)];
        private final int[] ways = new int[2 * (MOST_PICTURES + 1)];
        private final int[] takes = new int[2 * (MOST_PICTURES + 1)];
        private final int[] bestTrees = new int[MOST_PICTURES * (MOST_ON_PAGE + 1)];
        private final int[] leaves = new int[MOST_PAGES * LEAF_FIELDS];
        private final int[] pageOfPicture = new int[MOST_PICTURES];
        private int pictures = 0;
        private int pageCount = 0;
        private boolean made = false;

        void forget() {
            made = false;
        }

        void make(Album album, Sheet sheet) {
            if (made) {
                return;
            }
            made = true;
            pictures = album.count;
            beginSpot(2 * pictures, 0, 1);
            beginSpot(2 * pictures + 1, 0, 1);
            for (int i = pictures - 1; i >= 0; i--) {
                beginSpot(2 * i, NONE, 0);
                beginSpot(2 * i + 1, NONE, 0);
                if (album.isWide(i)) {
                    weighWide(album, sheet, i);
                } else {
                    weighPlain(album, sheet, i);
                }
            }
            setOut(album);
        }

        boolean exists() {
            return least[0] != NONE;
        }

        int expense() {
            return least[0];
        }

        int howMany() {
            return ways[0];
        }

        int leafField(int p, int field) {
            if (p < 0 || p >= pageCount || field < 0 || field >= LEAF_FIELDS) {
                return NONE;
            }
            return at(leaves, p * LEAF_FIELDS + field);
        }

        int pageWith(int i) {
            return exists() && i >= 0 && i < pictures ? at(pageOfPicture, i) : NONE;
        }

        /** The first page that the other book has otherwise, as leaf() tells pages. */
        int firstUnlike(Book other) {
            int both = Math.min(pageCount, other.pageCount);
            for (int p = 0; p < both; p++) {
                for (int field = 0; field < LEAF_FIELDS; field++) {
                    if (leafField(p, field) != other.leafField(p, field)) {
                        return p;
                    }
                }
            }
            return both;
        }

        private void beginSpot(int spot, int expense, int count) {
            put(least, spot, expense);
            put(ways, spot, count);
            put(takes, spot, 0);
        }

        private void weighWide(Album album, Sheet sheet, int i) {
            sheet.layBest(album, i, 1);
            int behind = 2 * (i + 1);
            offer(2 * i, 1, sheet.leastExpense, behind);
            offer(2 * i + 1, 1, sheet.leastExpense + album.pageWidth * album.pageHeight, behind);
        }

        /** Fewer pictures are offered first, so that of like books the first stays. */
        private void weighPlain(Album album, Sheet sheet, int i) {
            for (int n = 1; n <= MOST_ON_PAGE; n++) {
                if (!album.mayBreakAhead(i + n)) {
                    continue;
                }
                int best = sheet.layBest(album, i, n);
                if (best == NONE) {
                    return;
                }
                put(bestTrees, i * (MOST_ON_PAGE + 1) + n, best);
                offer(2 * i, n, sheet.leastExpense, 2 * (i + n) + 1);
                offer(2 * i + 1, n, sheet.leastExpense, 2 * (i + n));
            }
        }

        private void offer(int spot, int n, int expense, int behind) {
            int rest = at(least, behind);
            if (rest == NONE) {
                return;
            }
            int sum = expense + rest;
            int least = at(this.least, spot);
            if (least == NONE || sum < least) {
                put(this.least, spot, sum);
                put(ways, spot, at(ways, behind));
                put(takes, spot, n);
            } else if (sum == least) {
                put(ways, spot, at(ways, spot) + at(ways, behind));
            }
        }

        private void setOut(Album album) {
            pageCount = 0;
            int i = 0;
            for (int step = 0; step < MOST_PICTURES && exists() && i < pictures; step++) {
                boolean wide = album.isWide(i);
                if (wide && pageCount % 2 == 1) {
                    addLeaf(0, NONE, NONE);
                }
                int n = at(takes, 2 * i + pageCount % 2);
                int tree = wide ? 0 : at(bestTrees, i * (MOST_ON_PAGE + 1) + n);
                for (int k = 0; k < n; k++) {
                    put(pageOfPicture, i + k, pageCount);
                }
                addLeaf(n, i, tree);
                if (wide) {
                    addLeaf(n, i, tree);
                }
                i += n;
            }
        }

        private void addLeaf(int n, int first, int tree) {
            int spot = pageCount * LEAF_FIELDS;
            put(leaves, spot, n);
            put(leaves, spot + 1, first);
            put(leaves, spot + 2, tree);
            pageCount++;
        }
    }
}
