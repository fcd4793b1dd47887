/**
 * Keeps a desktop search: the files as they are, the notices of what happens to them, what the
 * keeper knows of them, and the answers to questions. The promises are those of the document; the
 * words used here are its words.
 */
public final class SearchKeeper {
    public static final int NONE = -1;
    public static final int OPEN = -2, CLOSE = -3;

    private static final int TOP = 0;
    private static final int MOST_NODES = 60;
    private static final int MOST_MARKS = 20;
    private static final int MOST_WATCHED = 3;
    private static final int MOST_NOTICES = 8;
    private static final int MOST_SEGMENTS = 3;
    private static final int MOST_STEPS = 500;
    private static final int MOST_STEPS_OF_HOUR = 20;
    private static final int MOST_MINUTES = 1000;
    private static final int LAST_MINUTE = 100000;
    private static final int MINUTES_OF_HOUR = 60;
    private static final int PERSONS = 4;
    private static final int ALL_PEOPLE = 15;
    private static final int LAST_WORD = 99;
    private static final int DEEPEST = 3;

    private static final int CAME = 1, WRITTEN = 2, GONE = 3;
    private static final int NO_ACT = 0, LOOK = 1, DROP = 2;

    private final Tree tree;
    private final Roots roots;
    private final Reader reader;
    private final Entries known;
    private final Keeper keeper;
    private final Questions questions;
    private int minute;
    private boolean isOnBattery;
    private int batterySteps;

    public SearchKeeper() {
        tree = new Tree();
        roots = new Roots(tree);
        reader = new Reader();
        known = new Entries(tree, roots);
        keeper = new Keeper(tree, roots, reader, known);
        questions = new Questions(tree, roots, reader, known);
    }

    // ---- files

    public int make(int parent, char name, boolean isFolder)
            throws IndexOutOfBoundsException, IllegalArgumentException, IllegalStateException {
        if (!tree.isFolder(parent)) {
            throw new IndexOutOfBoundsException("no such folder");
        }
        if (!isName(name)) {
            throw new IllegalArgumentException("a name is a letter a to z");
        }
        if (tree.findIn(parent, name) != NONE || tree.isFull()) {
            throw new IllegalStateException("the name is taken there, or 60 nodes were made");
        }
        int node = tree.add(parent, name, isFolder);
        roots.tellAbove(node, CAME);
        return node;
    }

    public int write(int file, int mark)
            throws IndexOutOfBoundsException, IllegalArgumentException, IllegalStateException {
        if (!tree.isFile(file)) {
            throw new IndexOutOfBoundsException("no such file");
        }
        if (!isWord(mark) && mark != OPEN && mark != CLOSE) {
            throw new IllegalArgumentException("a mark is 0 to 99, OPEN or CLOSE");
        }
        if (tree.isLocked(file) || tree.lengthOf(file) >= MOST_MARKS) {
            throw new IllegalStateException("the file is locked, or full");
        }
        tree.append(file, mark);
        roots.tellAbove(file, WRITTEN);
        return tree.editionOf(file);
    }

    public int empty(int file) throws IndexOutOfBoundsException, IllegalStateException {
        if (!tree.isFile(file)) {
            throw new IndexOutOfBoundsException("no such file");
        }
        if (tree.isLocked(file)) {
            throw new IllegalStateException("the file is locked");
        }
        int before = tree.lengthOf(file);
        tree.clearText(file);
        roots.tellAbove(file, WRITTEN);
        return before;
    }

    public int move(int node, int parent, char name)
            throws IndexOutOfBoundsException, IllegalArgumentException, IllegalStateException {
        if (node == TOP || !tree.isThere(node) || !tree.isFolder(parent)) {
            throw new IndexOutOfBoundsException("no such node, or no such folder");
        }
        if (!isName(name)) {
            throw new IllegalArgumentException("a name is a letter a to z");
        }
        int holder = tree.findIn(parent, name);
        if (parent == node || tree.isBelow(parent, node) || (holder != NONE && holder != node)) {
            throw new IllegalStateException("the node can't lie there by that name");
        }
        Root after = roots.holding(parent);
        if (after != null && roots.hasAtOrBelow(node)) {
            throw new IllegalStateException("a root would be below another one");
        }
        Root before = roots.above(node);
        int parentBefore = tree.parentOf(node);
        tree.put(node, parent, name);
        if (before != null && before != after) {
            before.tell(GONE, node);
        }
        if (after != null) {
            after.tell(CAME, node);
        }
        return parentBefore;
    }

    public int remove(int node) throws IndexOutOfBoundsException {
        if (node == TOP || !tree.isThere(node)) {
            throw new IndexOutOfBoundsException("no such node, or the top");
        }
        roots.tellAbove(node, GONE);
        int many = tree.takeAway(node);
        if (roots.endGone()) {
            keeper.lookAtAllEntries();
        }
        return many;
    }

    public boolean lock(int file, boolean isLocked) throws IndexOutOfBoundsException {
        if (!tree.isFile(file)) {
            throw new IndexOutOfBoundsException("no such file");
        }
        boolean before = tree.isLocked(file);
        tree.setLocked(file, isLocked);
        return before;
    }

    public int people(int node, int people)
            throws IndexOutOfBoundsException, IllegalArgumentException {
        if (!tree.isThere(node)) {
            throw new IndexOutOfBoundsException("no such node");
        }
        if (people < 0 || people > ALL_PEOPLE) {
            throw new IllegalArgumentException("a set of people is 0 to 15");
        }
        int before = tree.peopleOf(node);
        tree.setPeople(node, people);
        return before;
    }

    public boolean mayRead(int person, int node) throws IndexOutOfBoundsException {
        if (!isPerson(person) || !tree.isThere(node)) {
            throw new IndexOutOfBoundsException("no such person or node");
        }
        return tree.isOpenTo(person, node);
    }

    public int nodes() {
        return tree.countThere();
    }

    // ---- watching, notices

    public int watch(int folder) throws IndexOutOfBoundsException, IllegalStateException {
        if (!tree.isFolder(folder)) {
            throw new IndexOutOfBoundsException("no such folder");
        }
        if (roots.find(folder) != null) {
            roots.end(folder);
            keeper.lookAtAllEntries();
            return roots.count();
        }
        if (roots.isFull() || roots.holding(folder) != null || roots.hasAtOrBelow(folder)) {
            throw new IllegalStateException("three are watched, or one above or below it");
        }
        roots.add(folder);
        return roots.count();
    }

    public int notices(int root) throws IndexOutOfBoundsException {
        Root found = roots.find(root);
        if (found == null) {
            throw new IndexOutOfBoundsException("no root");
        }
        return found.countOrFlood();
    }

    public int twice(int root) throws IndexOutOfBoundsException, IllegalStateException {
        Root found = roots.find(root);
        if (found == null) {
            throw new IndexOutOfBoundsException("no root");
        }
        if (!found.hasNotices()) {
            throw new IllegalStateException("no notice to double");
        }
        found.tellLastAgain();
        return found.countOrFlood();
    }

    public int lose(int root, int many)
            throws IndexOutOfBoundsException, IllegalArgumentException {
        Root found = roots.find(root);
        if (found == null) {
            throw new IndexOutOfBoundsException("no root");
        }
        if (many < 1 || many > MOST_NOTICES) {
            throw new IllegalArgumentException("1 to 8 notices are lost");
        }
        return found.forgetLast(many);
    }

    // ---- the keeper

    public int pass(int minutes) throws IllegalArgumentException, IllegalStateException {
        if (minutes < 1 || minutes > MOST_MINUTES) {
            throw new IllegalArgumentException("1 to 1000 minutes pass");
        }
        if (minute + minutes > LAST_MINUTE) {
            throw new IllegalStateException("the minute would be above 100000");
        }
        int hourBefore = minute / MINUTES_OF_HOUR;
        minute += minutes;
        if (minute / MINUTES_OF_HOUR != hourBefore) {
            batterySteps = 0;
        }
        return minute;
    }

    public boolean battery(boolean isOn) {
        boolean before = isOnBattery;
        isOnBattery = isOn;
        return before;
    }

    public int limits(int depth, int words) throws IllegalArgumentException {
        if (depth < 0 || depth > DEEPEST || words < 1 || words > MOST_MARKS) {
            throw new IllegalArgumentException("depth is 0 to 3, words are 1 to 20");
        }
        int before = reader.wordLimit;
        reader.depthLimit = depth;
        reader.wordLimit = words;
        return before;
    }

    public int work(int steps) throws IllegalArgumentException {
        if (steps < 1 || steps > MOST_STEPS) {
            throw new IllegalArgumentException("steps are 1 to 500");
        }
        if (!isOnBattery) {
            return keeper.doSteps(steps);
        }
        int done = keeper.doSteps(Math.min(steps, MOST_STEPS_OF_HOUR - batterySteps));
        batterySteps += done;
        return done;
    }

    public int crawl(int root) throws IndexOutOfBoundsException {
        Root found = roots.find(root);
        if (found == null) {
            throw new IndexOutOfBoundsException("no root");
        }
        found.beginCrawl();
        return roots.countCrawls();
    }

    public int acts() {
        return keeper.countActs();
    }

    public boolean isQuiet() {
        return roots.firstNoisy() == null && keeper.countActs() == 0 && roots.countCrawls() == 0;
    }

    public int entries() {
        return known.count();
    }

    public int edition(int node) throws IndexOutOfBoundsException {
        if (!tree.wasMade(node)) {
            throw new IndexOutOfBoundsException("no such node was made");
        }
        return known.editionOf(node);
    }

    public int stale() {
        return known.countStale();
    }

    public int segments() {
        return keeper.countSegments();
    }

    public int dead() {
        return keeper.countDead();
    }

    // ---- questions

    public int answers(int person, int word, int second, int folder)
            throws IndexOutOfBoundsException, IllegalArgumentException {
        if (!isPerson(person) || !isMadeOrNone(folder)) {
            throw new IndexOutOfBoundsException("no such person, or no such node was made");
        }
        if (!isWord(word) || !isWordOrNone(second)) {
            throw new IllegalArgumentException("words are 0 to 99");
        }
        return questions.count(person, word, second, folder);
    }

    public int answersAnew(int person, int word, int second, int folder)
            throws IndexOutOfBoundsException, IllegalArgumentException {
        if (!isPerson(person) || !isMadeOrNone(folder)) {
            throw new IndexOutOfBoundsException("no such person, or no such node was made");
        }
        if (!isWord(word) || !isWordOrNone(second)) {
            throw new IllegalArgumentException("words are 0 to 99");
        }
        return questions.countAnew(person, word, second, folder);
    }

    public int answer(int person, int word, int second, int place)
            throws IndexOutOfBoundsException, IllegalArgumentException {
        if (!isPerson(person)) {
            throw new IndexOutOfBoundsException("no such person");
        }
        if (!isWord(word) || !isWordOrNone(second)) {
            throw new IllegalArgumentException("words are 0 to 99");
        }
        int found = questions.fileAt(person, word, second, place);
        if (found == NONE) {
            throw new IndexOutOfBoundsException("no such place");
        }
        return found;
    }

    public int closest(int person, int file, int word, int second)
            throws IndexOutOfBoundsException, IllegalArgumentException {
        if (!isPerson(person) || !tree.isFile(file) || !tree.isOpenTo(person, file)) {
            throw new IndexOutOfBoundsException("no such person, or no such file for the person");
        }
        if (!isWord(word) || !isWord(second)) {
            throw new IllegalArgumentException("words are 0 to 99");
        }
        return questions.closestPlaces(file, word, second);
    }

    private boolean isMadeOrNone(int node) {
        return node == NONE || tree.wasMade(node);
    }

    private static boolean isName(char name) {
        return name >= 'a' && name <= 'z';
    }

    private static boolean isPerson(int person) {
        return person >= 0 && person < PERSONS;
    }

    private static boolean isWord(int word) {
        return word >= 0 && word <= LAST_WORD;
    }

    private static boolean isWordOrNone(int word) {
        return word == NONE || isWord(word);
    }

    /** The folders and files as they are, whatever the keeper knows of them. */
    private static final class Tree {
        private final int[] parents = new int[MOST_NODES];
        private final char[] names = new char[MOST_NODES];
        private final boolean[] areFolders = new boolean[MOST_NODES];
        private final boolean[] areThere = new boolean[MOST_NODES];
        private final boolean[] areLocked = new boolean[MOST_NODES];
        private final int[] sets = new int[MOST_NODES];
        private final int[] editions = new int[MOST_NODES];
        private final int[] lengths = new int[MOST_NODES];
        private final int[][] texts = new int[MOST_NODES][MOST_MARKS];
        private int made;

        Tree() {
            for (int node = 0; node < MOST_NODES; node++) {
                parents[node] = NONE;
            }
            areFolders[TOP] = true;
            areThere[TOP] = true;
            sets[TOP] = ALL_PEOPLE;
            made = 1;
        }

        boolean wasMade(int node) {
            return node >= 0 && node < made;
        }

        boolean isThere(int node) {
            return node >= 0 && node < MOST_NODES && areThere[node];
        }

        boolean isFolder(int node) {
            return node >= 0 && node < MOST_NODES && areThere[node] && areFolders[node];
        }

        boolean isFile(int node) {
            return node >= 0 && node < MOST_NODES && areThere[node] && !areFolders[node];
        }

        boolean isLocked(int node) {
            return node >= 0 && node < MOST_NODES && areLocked[node];
        }

        boolean isFull() {
            return made >= MOST_NODES;
        }

        /** NONE for the top, and for what is not there: that is below nothing. */
        int parentOf(int node) {
            return node >= 0 && node < MOST_NODES ? parents[node] : NONE;
        }

        char nameOf(int node) {
            return node >= 0 && node < MOST_NODES ? names[node] : ' ';
        }

        int peopleOf(int node) {
            return node >= 0 && node < MOST_NODES ? sets[node] : 0;
        }

        int editionOf(int node) {
            return node >= 0 && node < MOST_NODES ? editions[node] : 0;
        }

        int lengthOf(int node) {
            return node >= 0 && node < MOST_NODES ? lengths[node] : 0;
        }

        /** Callers only read the row that they get. */
        int[] textOf(int node) {
            return texts[node >= 0 && node < MOST_NODES ? node : TOP];
        }

        int findIn(int folder, char name) {
            for (int node = 0; node < MOST_NODES; node++) {
                if (areThere[node] && parents[node] == folder && names[node] == name) {
                    return node;
                }
            }
            return NONE;
        }

        boolean isBelow(int node, int folder) {
            int at = parentOf(node);
            for (int level = 0; level < MOST_NODES && at != NONE; level++) {
                if (at == folder) {
                    return true;
                }
                at = parentOf(at);
            }
            return false;
        }

        boolean isOpenTo(int person, int node) {
            int at = node;
            for (int level = 0; level < MOST_NODES && at != NONE; level++) {
                if ((peopleOf(at) >> person & 1) == 0) {
                    return false;
                }
                at = parentOf(at);
            }
            return true;
        }

        int countThere() {
            int many = 0;
            for (int node = 0; node < MOST_NODES; node++) {
                if (areThere[node]) {
                    many++;
                }
            }
            return many;
        }

        int add(int parent, char name, boolean isFolder) {
            if (made < 0 || made >= MOST_NODES) {
                return NONE;
            }
            int node = made;
            parents[node] = parent;
            names[node] = name;
            areFolders[node] = isFolder;
            areThere[node] = true;
            sets[node] = ALL_PEOPLE;
            editions[node] = isFolder ? 0 : 1;
            made++;
            return node;
        }

        void put(int node, int parent, char name) {
            if (isThere(node)) {
                parents[node] = parent;
                names[node] = name;
            }
        }

        void append(int file, int mark) {
            int length = lengthOf(file);
            if (isFile(file) && length >= 0 && length < MOST_MARKS) {
                texts[file][length] = mark;
                lengths[file] = length + 1;
                editions[file]++;
            }
        }

        void clearText(int file) {
            if (isFile(file)) {
                lengths[file] = 0;
                editions[file]++;
            }
        }

        void setLocked(int file, boolean isLocked) {
            if (isFile(file)) {
                areLocked[file] = isLocked;
            }
        }

        void setPeople(int node, int people) {
            if (isThere(node)) {
                sets[node] = people;
            }
        }

        /** Parents are cut only when all that goes is found: the ways to the node lead over them. */
        int takeAway(int top) {
            int many = 0;
            for (int node = 0; node < MOST_NODES; node++) {
                if (areThere[node] && (node == top || isBelow(node, top))) {
                    areThere[node] = false;
                    many++;
                }
            }
            for (int node = 0; node < MOST_NODES; node++) {
                if (!areThere[node]) {
                    parents[node] = NONE;
                }
            }
            return many;
        }
    }

    /** A watched folder with its queue of notices and its crawl. */
    private static final class Root {
        private final int[] kinds = new int[MOST_NOTICES];
        private final int[] nodes = new int[MOST_NOTICES];
        private final Crawl crawl = new Crawl();
        private int folder;
        private int many;
        private boolean isFlooded;

        void startAt(int watched) {
            folder = watched;
            many = 0;
            isFlooded = false;
            beginCrawl();
        }

        void beginCrawl() {
            crawl.startAnew(folder);
        }

        void tell(int kind, int node) {
            if (isFlooded) {
                return;
            }
            if (many < 0 || many >= MOST_NOTICES) {
                isFlooded = true;
                many = 0;
                return;
            }
            kinds[many] = kind;
            nodes[many] = node;
            many++;
        }

        void tellLastAgain() {
            int last = many - 1;
            if (last >= 0 && last < MOST_NOTICES) {
                tell(kinds[last], nodes[last]);
            }
        }

        boolean hasNotices() {
            return many > 0;
        }

        int countOrFlood() {
            return isFlooded ? NONE : many;
        }

        int forgetLast(int lost) {
            many = Math.max(0, many - lost);
            return many;
        }

        void takeFirst() {
            for (int place = 1; place < many && place < MOST_NOTICES; place++) {
                kinds[place - 1] = kinds[place];
                nodes[place - 1] = nodes[place];
            }
            many = Math.max(0, many - 1);
        }
    }

    /** The folders of a root that wait for a look, and the nodes that were met so far. */
    private static final class Crawl {
        private final int[] waiting = new int[MOST_NODES];
        private final boolean[] isWaiting = new boolean[MOST_NODES];
        private final boolean[] wasMet = new boolean[MOST_NODES];
        private int many;
        private boolean goesOn;

        void startAnew(int root) {
            for (int node = 0; node < MOST_NODES; node++) {
                isWaiting[node] = false;
                wasMet[node] = false;
            }
            many = 0;
            goesOn = true;
            letWait(root);
        }

        void letWait(int folder) {
            boolean isNumber = folder >= 0 && folder < MOST_NODES;
            if (isNumber && !isWaiting[folder] && many >= 0 && many < MOST_NODES) {
                waiting[many] = folder;
                isWaiting[folder] = true;
                many++;
            }
        }

        int takeFirst() {
            if (many < 1) {
                return NONE;
            }
            int folder = waiting[0];
            for (int place = 1; place < many && place < MOST_NODES; place++) {
                waiting[place - 1] = waiting[place];
            }
            many--;
            if (folder >= 0 && folder < MOST_NODES) {
                isWaiting[folder] = false;
            }
            return folder;
        }

        void meet(int node) {
            if (node >= 0 && node < MOST_NODES) {
                wasMet[node] = true;
            }
        }

        boolean hasMet(int node) {
            return node >= 0 && node < MOST_NODES && wasMet[node];
        }
    }

    /** The roots, in the order in which they were watched. */
    private static final class Roots {
        private final Tree tree;
        private final Root[] rows = new Root[MOST_WATCHED];
        private int many;

        Roots(Tree files) {
            tree = files;
            for (int place = 0; place < MOST_WATCHED; place++) {
                rows[place] = new Root();
            }
        }

        int count() {
            return many;
        }

        boolean isFull() {
            return many >= MOST_WATCHED;
        }

        Root find(int folder) {
            for (int place = 0; place < many && place < MOST_WATCHED; place++) {
                Root root = rows[place];
                if (root != null && root.folder == folder) {
                    return root;
                }
            }
            return null;
        }

        /** The root that all that lies in a folder is below. */
        Root holding(int folder) {
            int at = folder;
            for (int level = 0; level < MOST_NODES && at != NONE; level++) {
                Root root = find(at);
                if (root != null) {
                    return root;
                }
                at = tree.parentOf(at);
            }
            return null;
        }

        Root above(int node) {
            return holding(tree.parentOf(node));
        }

        boolean hasAtOrBelow(int node) {
            for (int place = 0; place < many && place < MOST_WATCHED; place++) {
                Root root = rows[place];
                if (root != null && (root.folder == node || tree.isBelow(root.folder, node))) {
                    return true;
                }
            }
            return false;
        }

        Root firstNoisy() {
            for (int place = 0; place < many && place < MOST_WATCHED; place++) {
                Root root = rows[place];
                if (root != null && (root.isFlooded || root.hasNotices())) {
                    return root;
                }
            }
            return null;
        }

        Root firstCrawled() {
            for (int place = 0; place < many && place < MOST_WATCHED; place++) {
                Root root = rows[place];
                if (root != null && root.crawl.goesOn) {
                    return root;
                }
            }
            return null;
        }

        int countCrawls() {
            int crawls = 0;
            for (int place = 0; place < many && place < MOST_WATCHED; place++) {
                Root root = rows[place];
                if (root != null && root.crawl.goesOn) {
                    crawls++;
                }
            }
            return crawls;
        }

        void tellAbove(int node, int kind) {
            Root root = above(node);
            if (root != null) {
                root.tell(kind, node);
            }
        }

        void add(int folder) {
            if (many < 0 || many >= MOST_WATCHED) {
                return;
            }
            Root root = rows[many];
            if (root != null) {
                root.startAt(folder);
                many++;
            }
        }

        /** The row of an ended root goes behind the others, to be used again. */
        void end(int folder) {
            Root ended = find(folder);
            if (ended == null) {
                return;
            }
            int kept = 0;
            for (int place = 0; place < many && place < MOST_WATCHED; place++) {
                Root root = rows[place];
                if (root != ended && kept < MOST_WATCHED) {
                    rows[kept] = root;
                    kept++;
                }
            }
            if (kept < MOST_WATCHED) {
                rows[kept] = ended;
            }
            many = kept;
        }

        boolean endGone() {
            boolean isOneGone = false;
            for (int place = MOST_WATCHED - 1; place >= 0; place--) {
                Root root = rows[place];
                if (place < many && root != null && !tree.isThere(root.folder)) {
                    end(root.folder);
                    isOneGone = true;
                }
            }
            return isOneGone;
        }
    }

    /** Takes words out of texts, by the limits of now. */
    private static final class Reader {
        private int depthLimit = 2;
        private int wordLimit = 12;

        /** Puts the words into a row, and tells how many they are. */
        int takeWords(int[] marks, int length, int[] words) {
            int end = endOfWhole(marks, length);
            int taken = 0;
            int depth = 0;
            for (int place = 0; place < end && place < marks.length; place++) {
                int mark = marks[place];
                if (mark == OPEN) {
                    depth++;
                } else if (mark == CLOSE) {
                    depth = Math.max(0, depth - 1);
                } else if (depth <= depthLimit && taken < wordLimit && taken < words.length) {
                    words[taken] = mark;
                    taken++;
                }
            }
            return taken;
        }

        /** Backwards, an OPEN that finds no CLOSE left for it is never closed. */
        private static int endOfWhole(int[] marks, int length) {
            int end = Math.min(length, marks.length);
            int closes = 0;
            for (int place = end - 1; place >= 0; place--) {
                int mark = marks[place];
                if (mark == CLOSE) {
                    closes++;
                } else if (mark == OPEN && closes > 0) {
                    closes--;
                } else if (mark == OPEN) {
                    end = place;
                }
            }
            return end;
        }
    }

    /** What the keeper knows of nodes. */
    private static final class Entries {
        private final Tree tree;
        private final Roots roots;
        private final boolean[] areKept = new boolean[MOST_NODES];
        private final int[] parents = new int[MOST_NODES];
        private final char[] names = new char[MOST_NODES];
        private final int[] editions = new int[MOST_NODES];
        private final int[] lengths = new int[MOST_NODES];
        private final int[][] words = new int[MOST_NODES][MOST_MARKS];
        private final boolean[] gotEdition = new boolean[MOST_NODES];
        private final boolean[] areGoing = new boolean[MOST_NODES];

        Entries(Tree files, Roots watched) {
            tree = files;
            roots = watched;
        }

        boolean has(int node) {
            return node >= 0 && node < MOST_NODES && areKept[node];
        }

        int editionOf(int node) {
            return has(node) ? editions[node] : NONE;
        }

        int lengthOf(int node) {
            return has(node) ? lengths[node] : 0;
        }

        /** As many of the row as lengthOf tells are the words of an entry. */
        int[] wordsOf(int node) {
            return words[node >= 0 && node < MOST_NODES ? node : TOP];
        }

        int count() {
            int many = 0;
            for (int node = 0; node < MOST_NODES; node++) {
                if (areKept[node]) {
                    many++;
                }
            }
            return many;
        }

        boolean isBehind(int node) {
            if (!has(node)) {
                return true;
            }
            if (parents[node] != tree.parentOf(node) || names[node] != tree.nameOf(node)) {
                return true;
            }
            return tree.isFile(node) && editions[node] != tree.editionOf(node);
        }

        int countStale() {
            int many = 0;
            for (int node = 0; node < MOST_NODES; node++) {
                boolean isBelowRoot = roots.above(node) != null;
                if (isBelowRoot ? tree.isFile(node) && isBehind(node) : areKept[node]) {
                    many++;
                }
            }
            return many;
        }

        /** A counter ends the way, for moves that are half known can lead it round. */
        boolean isBelow(int node, int folder) {
            int at = node;
            for (int level = 0; level < MOST_NODES && has(at); level++) {
                int parent = parents[at];
                if (parent == folder) {
                    return true;
                }
                if (roots.find(parent) != null) {
                    return false;
                }
                at = parent;
            }
            return false;
        }

        void keepPlace(int node) {
            if (node >= 0 && node < MOST_NODES) {
                areKept[node] = true;
                parents[node] = tree.parentOf(node);
                names[node] = tree.nameOf(node);
            }
        }

        void keepEdition(int file, int length) {
            if (file >= 0 && file < MOST_NODES) {
                editions[file] = tree.editionOf(file);
                lengths[file] = length;
                gotEdition[file] = true;
            }
        }

        /** All that goes is found first: the ways to the node lead over entries that go. */
        void takeAway(int top) {
            boolean isRoot = roots.find(top) != null;
            for (int node = 0; node < MOST_NODES; node++) {
                areGoing[node] = node == top || (!isRoot && isBelow(node, top));
            }
            for (int node = 0; node < MOST_NODES; node++) {
                if (areGoing[node]) {
                    areKept[node] = false;
                    gotEdition[node] = false;
                }
            }
        }

        boolean hasGotEdition(int node) {
            return node >= 0 && node < MOST_NODES && gotEdition[node];
        }

        void endWork() {
            for (int node = 0; node < MOST_NODES; node++) {
                gotEdition[node] = false;
            }
        }
    }

    /** The acts in order, one for a node at most. */
    private static final class Acts {
        private final int[] order = new int[MOST_NODES];
        private final int[] kinds = new int[MOST_NODES];
        private final boolean[] arePutOff = new boolean[MOST_NODES];
        private int many;

        int count() {
            return many;
        }

        int kindOf(int node) {
            return node >= 0 && node < MOST_NODES ? kinds[node] : NO_ACT;
        }

        void add(int node, int kind) {
            if (node < 0 || node >= MOST_NODES) {
                return;
            }
            if (kinds[node] == NO_ACT && many >= 0 && many < MOST_NODES) {
                order[many] = node;
                many++;
            }
            kinds[node] = kind;
        }

        int firstReady() {
            for (int place = 0; place < many && place < MOST_NODES; place++) {
                int node = order[place];
                if (node >= 0 && node < MOST_NODES && !arePutOff[node]) {
                    return node;
                }
            }
            return NONE;
        }

        void takeAway(int node) {
            if (kindOf(node) == NO_ACT) {
                return;
            }
            kinds[node] = NO_ACT;
            int kept = 0;
            for (int place = 0; place < many && place < MOST_NODES; place++) {
                if (order[place] != node && kept < MOST_NODES) {
                    order[kept] = order[place];
                    kept++;
                }
            }
            many = kept;
        }

        void putOff(int node) {
            takeAway(node);
            add(node, LOOK);
            if (node >= 0 && node < MOST_NODES) {
                arePutOff[node] = true;
            }
        }

        void endWork() {
            for (int node = 0; node < MOST_NODES; node++) {
                arePutOff[node] = false;
            }
        }
    }

    /**
     * The segments. An entry has one place at most that is not dead, and of dead ones only their
     * number matters, so the segment of that place is kept for each node, and counts for each
     * segment.
     */
    private static final class Index {
        private final int[] homes = new int[MOST_NODES];
        private final int[] alive = new int[MOST_SEGMENTS + 1];
        private final int[] buried = new int[MOST_SEGMENTS + 1];
        private int many;

        Index() {
            for (int node = 0; node < MOST_NODES; node++) {
                homes[node] = NONE;
            }
        }

        int count() {
            return many;
        }

        int countBuried() {
            int places = 0;
            for (int segment = 0; segment < many && segment <= MOST_SEGMENTS; segment++) {
                places += buried[segment];
            }
            return places;
        }

        void endWork(Entries entries) {
            for (int node = 0; node < MOST_NODES; node++) {
                if (entries.hasGotEdition(node) || !entries.has(node)) {
                    bury(node);
                }
            }
            addSegment(entries);
            for (int segment = MOST_SEGMENTS; segment >= 0; segment--) {
                if (segment < many && alive[segment] == 0) {
                    close(segment);
                }
            }
            for (int merge = 0; merge < MOST_SEGMENTS && many > MOST_SEGMENTS; merge++) {
                joinWithNext(smallestPair());
            }
        }

        private void bury(int node) {
            if (node < 0 || node >= MOST_NODES) {
                return;
            }
            int home = homes[node];
            if (home >= 0 && home <= MOST_SEGMENTS) {
                alive[home]--;
                buried[home]++;
            }
            homes[node] = NONE;
        }

        /** A segment without places is no harm: it is closed with those that have only dead ones. */
        private void addSegment(Entries entries) {
            if (many < 0 || many > MOST_SEGMENTS) {
                return;
            }
            alive[many] = 0;
            buried[many] = 0;
            for (int node = 0; node < MOST_NODES; node++) {
                if (entries.hasGotEdition(node)) {
                    homes[node] = many;
                    alive[many]++;
                }
            }
            many++;
        }

        private void close(int closed) {
            if (closed < 0 || closed >= many) {
                return;
            }
            for (int segment = closed; segment + 1 < many && segment < MOST_SEGMENTS; segment++) {
                alive[segment] = alive[segment + 1];
                buried[segment] = buried[segment + 1];
            }
            for (int node = 0; node < MOST_NODES; node++) {
                if (homes[node] > closed) {
                    homes[node]--;
                }
            }
            many--;
        }

        private int smallestPair() {
            int best = NONE;
            int fewest = 0;
            for (int segment = 0; segment + 1 < many && segment < MOST_SEGMENTS; segment++) {
                int places = alive[segment] + buried[segment]
                        + alive[segment + 1] + buried[segment + 1];
                if (best == NONE || places < fewest) {
                    fewest = places;
                    best = segment;
                }
            }
            return best;
        }

        private void joinWithNext(int segment) {
            if (segment < 0 || segment >= MOST_SEGMENTS || segment + 1 >= many) {
                return;
            }
            alive[segment] += alive[segment + 1];
            buried[segment] = 0;
            for (int node = 0; node < MOST_NODES; node++) {
                if (homes[node] == segment + 1) {
                    homes[node] = segment;
                }
            }
            close(segment + 1);
        }
    }

    /** Works by steps: notices first, then acts, then crawls. */
    private static final class Keeper {
        private final Tree tree;
        private final Roots roots;
        private final Reader reader;
        private final Entries known;
        private final Acts list = new Acts();
        private final Index index = new Index();

        Keeper(Tree files, Roots watched, Reader taker, Entries entries) {
            tree = files;
            roots = watched;
            reader = taker;
            known = entries;
        }

        int countActs() {
            return list.count();
        }

        int countSegments() {
            return index.count();
        }

        int countDead() {
            return index.countBuried();
        }

        void lookAtAllEntries() {
            for (int node = 0; node < MOST_NODES; node++) {
                if (known.has(node)) {
                    list.add(node, LOOK);
                }
            }
        }

        int doSteps(int most) {
            int done = 0;
            for (int turn = 0; turn < most && done < most; turn++) {
                int taken = doNext(most - done);
                if (taken == 0) {
                    break;
                }
                done += taken;
            }
            list.endWork();
            index.endWork(known);
            known.endWork();
            return done;
        }

        /** The steps that were taken; 0 if too few are left, or all is quiet. */
        private int doNext(int left) {
            Root noisy = roots.firstNoisy();
            if (noisy != null) {
                hear(noisy);
                return 1;
            }
            int node = list.firstReady();
            if (node != NONE) {
                return act(node, left);
            }
            Root crawled = roots.firstCrawled();
            if (crawled != null) {
                crawlOn(crawled);
                return 1;
            }
            return 0;
        }

        private void hear(Root root) {
            if (root.isFlooded) {
                root.isFlooded = false;
                root.beginCrawl();
                return;
            }
            list.add(root.nodes[0], root.kinds[0] == GONE ? DROP : LOOK);
            root.takeFirst();
        }

        private int act(int node, int left) {
            boolean isLook = list.kindOf(node) == LOOK;
            boolean isBelowRoot = roots.above(node) != null;
            if (isLook && isBelowRoot && tree.isFile(node)) {
                return lookAtFile(node, left);
            }
            list.takeAway(node);
            if (!isBelowRoot) {
                known.takeAway(node);
            } else if (isLook) {
                lookAtFolder(node);
            } else {
                list.add(node, LOOK);
            }
            return 1;
        }

        private int lookAtFile(int file, int left) {
            if (tree.isLocked(file)) {
                list.putOff(file);
                return 1;
            }
            int steps = 1;
            if (known.editionOf(file) != tree.editionOf(file)) {
                int length = tree.lengthOf(file);
                steps += length;
                if (steps > left) {
                    return 0;
                }
                int taken = reader.takeWords(tree.textOf(file), length, known.wordsOf(file));
                known.keepEdition(file, taken);
            }
            known.keepPlace(file);
            list.takeAway(file);
            return steps;
        }

        private void lookAtFolder(int folder) {
            known.keepPlace(folder);
            for (int node = 0; node < MOST_NODES; node++) {
                if (tree.parentOf(node) == folder) {
                    list.add(node, LOOK);
                }
            }
        }

        private void crawlOn(Root root) {
            Crawl crawl = root.crawl;
            int folder = crawl.takeFirst();
            if (folder == root.folder || tree.isBelow(folder, root.folder)) {
                meetAllIn(folder, crawl);
            }
            if (crawl.many == 0) {
                crawl.goesOn = false;
                lookAtUnmet(crawl);
            }
        }

        private void meetAllIn(int folder, Crawl crawl) {
            for (int node = 0; node < MOST_NODES; node++) {
                if (folder != NONE && tree.parentOf(node) == folder) {
                    crawl.meet(node);
                    if (known.isBehind(node)) {
                        list.add(node, LOOK);
                    }
                    if (tree.isFolder(node)) {
                        crawl.letWait(node);
                    }
                }
            }
        }

        private void lookAtUnmet(Crawl crawl) {
            for (int node = 0; node < MOST_NODES; node++) {
                if (known.has(node) && !crawl.hasMet(node)) {
                    list.add(node, LOOK);
                }
            }
        }
    }

    /** Answers, by what the keeper knows and by the rights of now. */
    private static final class Questions {
        private final Tree tree;
        private final Roots roots;
        private final Reader reader;
        private final Entries known;
        private final int[] scores = new int[MOST_NODES];
        private final int[] fresh = new int[MOST_MARKS];

        Questions(Tree files, Roots watched, Reader taker, Entries entries) {
            tree = files;
            roots = watched;
            reader = taker;
            known = entries;
        }

        int count(int person, int word, int second, int folder) {
            int many = 0;
            for (int node = 0; node < MOST_NODES; node++) {
                boolean isWithin = folder == NONE || known.isBelow(node, folder);
                if (isWithin && scoreOf(person, node, word, second) > 0) {
                    many++;
                }
            }
            return many;
        }

        int countAnew(int person, int word, int second, int folder) {
            int many = 0;
            for (int node = 0; node < MOST_NODES; node++) {
                if (tree.isFile(node) && tree.isOpenTo(person, node) && isWithinNow(node, folder)) {
                    int taken = reader.takeWords(tree.textOf(node), tree.lengthOf(node), fresh);
                    if (score(fresh, taken, word, second) > 0) {
                        many++;
                    }
                }
            }
            return many;
        }

        /** 100 times the score, and the file; NONE if there is no such place. */
        int fileAt(int person, int word, int second, int place) {
            for (int node = 0; node < MOST_NODES; node++) {
                scores[node] = scoreOf(person, node, word, second);
            }
            for (int node = 0; node < MOST_NODES; node++) {
                int score = scores[node];
                if (score > 0 && countAhead(node, score) == place) {
                    return 100 * score + node;
                }
            }
            return NONE;
        }

        int closestPlaces(int file, int word, int second) {
            int[] words = known.wordsOf(file);
            int length = Math.min(known.lengthOf(file), words.length);
            int best = NONE;
            int leastGap = 0;
            int leastPlace = 0;
            for (int one = 0; one < length; one++) {
                for (int other = 0; other < length; other++) {
                    if (one == other || words[one] != word || words[other] != second) {
                        continue;
                    }
                    int gap = Math.abs(one - other);
                    int place = Math.min(one, other);
                    boolean isNearer = gap < leastGap || (gap == leastGap && place < leastPlace);
                    // The first word's places rise, so of equal ones the lesser came before.
                    if (best == NONE || isNearer) {
                        leastGap = gap;
                        leastPlace = place;
                        best = 100 * one + other;
                    }
                }
            }
            return best;
        }

        private int countAhead(int file, int score) {
            int ahead = 0;
            for (int node = 0; node < MOST_NODES; node++) {
                boolean isHigher = scores[node] > score;
                if (isHigher || (scores[node] == score && node < file)) {
                    ahead++;
                }
            }
            return ahead;
        }

        private boolean isWithinNow(int file, int folder) {
            Root root = roots.above(file);
            if (root == null) {
                return false;
            }
            if (folder == NONE || folder == root.folder) {
                return true;
            }
            return tree.isBelow(folder, root.folder) && tree.isBelow(file, folder);
        }

        /** 0 for what is in no answer. */
        private int scoreOf(int person, int node, int word, int second) {
            if (!tree.isFile(node) || !known.has(node) || !tree.isOpenTo(person, node)) {
                return 0;
            }
            return score(known.wordsOf(node), known.lengthOf(node), word, second);
        }

        private static int score(int[] words, int length, int word, int second) {
            int firsts = 0;
            int seconds = 0;
            boolean isBehind = false;
            for (int place = 0; place < length && place < words.length; place++) {
                if (words[place] == word) {
                    firsts++;
                }
                if (words[place] == second) {
                    seconds++;
                    isBehind = isBehind || (place > 0 && words[place - 1] == word);
                }
            }
            if (second == NONE) {
                return firsts;
            }
            if (firsts == 0 || seconds == 0) {
                return 0;
            }
            return firsts + seconds + (isBehind ? 10 : 0);
        }
    }
}
