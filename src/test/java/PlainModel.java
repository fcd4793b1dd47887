import java.util.ArrayDeque;
import java.util.ArrayList;
import java.util.Comparator;
import java.util.Deque;
import java.util.HashSet;
import java.util.LinkedHashMap;
import java.util.LinkedHashSet;
import java.util.List;
import java.util.Map;
import java.util.Set;
import java.util.TreeMap;
import java.util.TreeSet;

/**
 * The document once more, in the plainest form that the Java library allows and with no thought
 * for speed or room. It shares no code with SearchKeeper, so that a slip in one shows beside the
 * other.
 */
final class PlainModel {
    static final int NONE = -1, OPEN = -2, CLOSE = -3;

    private static final class Node {
        int number;
        Node parent;
        char name;
        boolean isFolder;
        boolean isLocked;
        boolean isGone;
        int edition = 1;
        int people = 15;
        final List<Integer> text = new ArrayList<>();
    }

    private record Notice(String kind, Node node) { }

    private static final class Root {
        Node folder;
        final List<Notice> queue = new ArrayList<>();
        boolean isFlooded;
        Set<Integer> waiting;
        final Set<Integer> met = new HashSet<>();
    }

    private static final class Entry {
        int parent;
        char name;
        int edition;
        List<Integer> words = new ArrayList<>();
    }

    private static final class Place {
        final int node;
        boolean isDead;

        Place(int node) {
            this.node = node;
        }
    }

    private final List<Node> all = new ArrayList<>();
    private final List<Root> roots = new ArrayList<>();
    private final TreeMap<Integer, Entry> known = new TreeMap<>();
    private final LinkedHashMap<Integer, String> todo = new LinkedHashMap<>();
    private final Set<Integer> putOff = new HashSet<>();
    private final TreeSet<Integer> readNow = new TreeSet<>();
    private final List<List<Place>> index = new ArrayList<>();
    private int minute;
    private boolean onBattery;
    private int hourCounted;
    private int usedInHour;
    private int depthLimit = 2;
    private int wordLimit = 12;

    PlainModel() {
        Node top = new Node();
        top.isFolder = true;
        all.add(top);
    }

    // ---- looking things up

    private Node there(int number) {
        boolean isMade = number >= 0 && number < all.size();
        return isMade && !all.get(number).isGone ? all.get(number) : null;
    }

    private Node folder(int number) {
        Node node = there(number);
        return node != null && node.isFolder ? node : null;
    }

    private Node file(int number) {
        Node node = there(number);
        return node != null && !node.isFolder ? node : null;
    }

    /** For tests that choose: the folders or the files that there are. */
    List<Integer> numbers(boolean areFolders) {
        return all.stream().filter(n -> !n.isGone && n.isFolder == areFolders).map(n -> n.number)
                .toList();
    }

    List<Integer> rootNumbers() {
        return roots.stream().map(r -> r.folder.number).toList();
    }

    private List<Node> lyingIn(Node folder) {
        List<Node> in = new ArrayList<>();
        for (Node node : all) {
            if (!node.isGone && node.parent == folder && node.parent != null) {
                in.add(node);
            }
        }
        return in;
    }

    private Set<Node> allBelow(Node folder) {
        Set<Node> below = new HashSet<>();
        Deque<Node> open = new ArrayDeque<>(List.of(folder));
        while (!open.isEmpty()) {
            for (Node node : lyingIn(open.pop())) {
                below.add(node);
                open.push(node);
            }
        }
        return below;
    }

    private Root root(int folder) {
        return roots.stream().filter(r -> r.folder.number == folder).findFirst().orElse(null);
    }

    private Root rootOver(Node node) {
        return roots.stream().filter(r -> allBelow(r.folder).contains(node)).findFirst().orElse(null);
    }

    private static boolean isIn(int value, int least, int most) {
        return least <= value && value <= most;
    }

    private static void unless(boolean isFine, RuntimeException otherwise) {
        if (!isFine) {
            throw otherwise;
        }
    }

    private static void index(boolean isFine) {
        unless(isFine, new IndexOutOfBoundsException());
    }

    private static void argument(boolean isFine) {
        unless(isFine, new IllegalArgumentException());
    }

    private static void state(boolean isFine) {
        unless(isFine, new IllegalStateException());
    }

    // ---- files

    private void notice(Root root, String kind, Node node) {
        if (root == null || root.isFlooded) {
            return;
        }
        if (root.queue.size() == 8) {
            root.queue.clear();
            root.isFlooded = true;
        } else {
            root.queue.add(new Notice(kind, node));
        }
    }

    private boolean isTaken(Node folder, char name, Node but) {
        return lyingIn(folder).stream().anyMatch(n -> n.name == name && n != but);
    }

    int make(int parent, char name, boolean isFolder) {
        index(folder(parent) != null);
        argument(isIn(name, 'a', 'z'));
        state(!isTaken(folder(parent), name, null) && all.size() < 60);
        Node node = new Node();
        node.number = all.size();
        node.parent = folder(parent);
        node.name = name;
        node.isFolder = isFolder;
        all.add(node);
        notice(rootOver(node), "CAME", node);
        return node.number;
    }

    int write(int number, int mark) {
        Node file = file(number);
        index(file != null);
        argument(isIn(mark, 0, 99) || mark == OPEN || mark == CLOSE);
        state(!file.isLocked && file.text.size() < 20);
        file.text.add(mark);
        file.edition++;
        notice(rootOver(file), "WRITTEN", file);
        return file.edition;
    }

    int empty(int number) {
        Node file = file(number);
        index(file != null);
        state(!file.isLocked);
        int before = file.text.size();
        file.text.clear();
        file.edition++;
        notice(rootOver(file), "WRITTEN", file);
        return before;
    }

    int move(int number, int parent, char name) {
        Node node = there(number);
        Node into = folder(parent);
        index(node != null && number != 0 && into != null);
        argument(isIn(name, 'a', 'z'));
        state(into != node && !allBelow(node).contains(into));
        state(!isTaken(into, name, node));
        Root over = root(parent) != null ? root(parent) : rootOver(into);
        boolean bringsRoot = roots.stream()
                .anyMatch(r -> r.folder == node || allBelow(node).contains(r.folder));
        state(over == null || !bringsRoot);
        Root before = rootOver(node);
        int parentBefore = node.parent.number;
        node.parent = into;
        node.name = name;
        Root after = rootOver(node);
        if (before != null && before == after) {
            notice(after, "CAME", node);
        } else {
            notice(before, "GONE", node);
            notice(after, "CAME", node);
        }
        return parentBefore;
    }

    int remove(int number) {
        Node node = there(number);
        index(node != null && number != 0);
        notice(rootOver(node), "GONE", node);
        Set<Node> going = allBelow(node);
        going.add(node);
        going.forEach(n -> n.isGone = true);
        if (roots.removeIf(r -> r.folder.isGone)) {
            lookAtAll();
        }
        return going.size();
    }

    boolean lock(int number, boolean isLocked) {
        Node file = file(number);
        index(file != null);
        boolean before = file.isLocked;
        file.isLocked = isLocked;
        return before;
    }

    int people(int number, int people) {
        Node node = there(number);
        index(node != null);
        argument(isIn(people, 0, 15));
        int before = node.people;
        node.people = people;
        return before;
    }

    private boolean reads(int person, Node node) {
        boolean isIn = (node.people / (1 << person)) % 2 == 1;
        return isIn && (node.parent == null || reads(person, node.parent));
    }

    boolean mayRead(int person, int number) {
        index(isIn(person, 0, 3) && there(number) != null);
        return reads(person, there(number));
    }

    int nodes() {
        return (int) all.stream().filter(n -> !n.isGone).count();
    }

    // ---- watching, notices

    private void lookAtAll() {
        known.keySet().forEach(n -> todo.put(n, "LOOK"));
    }

    private void beginCrawl(Root root) {
        root.waiting = new LinkedHashSet<>(Set.of(root.folder.number));
        root.met.clear();
    }

    int watch(int number) {
        Node folder = folder(number);
        index(folder != null);
        if (root(number) != null) {
            roots.remove(root(number));
            lookAtAll();
            return roots.size();
        }
        state(roots.size() < 3 && rootOver(folder) == null);
        state(roots.stream().noneMatch(r -> allBelow(folder).contains(r.folder)));
        Root root = new Root();
        root.folder = folder;
        beginCrawl(root);
        roots.add(root);
        return roots.size();
    }

    int notices(int number) {
        Root root = root(number);
        index(root != null);
        return root.isFlooded ? NONE : root.queue.size();
    }

    int twice(int number) {
        Root root = root(number);
        index(root != null);
        state(!root.queue.isEmpty());
        Notice last = root.queue.get(root.queue.size() - 1);
        notice(root, last.kind, last.node);
        return notices(number);
    }

    int lose(int number, int many) {
        Root root = root(number);
        index(root != null);
        argument(isIn(many, 1, 8));
        for (int i = 0; i < many && !root.queue.isEmpty(); i++) {
            root.queue.remove(root.queue.size() - 1);
        }
        return root.queue.size();
    }

    // ---- the keeper

    int pass(int minutes) {
        argument(isIn(minutes, 1, 1000));
        state(minute + minutes <= 100000);
        minute += minutes;
        return minute;
    }

    boolean battery(boolean isOn) {
        boolean before = onBattery;
        onBattery = isOn;
        return before;
    }

    int limits(int depth, int words) {
        argument(isIn(depth, 0, 3) && isIn(words, 1, 20));
        int before = wordLimit;
        depthLimit = depth;
        wordLimit = words;
        return before;
    }

    int work(int steps) {
        argument(isIn(steps, 1, 500));
        if (hourCounted != minute / 60) {
            hourCounted = minute / 60;
            usedInHour = 0;
        }
        int most = onBattery ? Math.min(steps, 20 - usedInHour) : steps;
        int done = 0;
        while (true) {
            int cost = nextCost();
            if (cost == 0 || done + cost > most) {
                break;
            }
            next();
            done += cost;
        }
        if (onBattery) {
            usedInHour += done;
        }
        putOff.clear();
        endSegments();
        return done;
    }

    private Root noisy() {
        return roots.stream().filter(r -> r.isFlooded || !r.queue.isEmpty()).findFirst().orElse(null);
    }

    private Integer ready() {
        return todo.keySet().stream().filter(n -> !putOff.contains(n)).findFirst().orElse(null);
    }

    private Root crawling() {
        return roots.stream().filter(r -> r.waiting != null).findFirst().orElse(null);
    }

    private int nextCost() {
        if (noisy() != null) {
            return 1;
        }
        if (ready() != null) {
            Node node = all.get(ready());
            boolean isReading = todo.get(node.number).equals("LOOK") && rootOver(node) != null
                    && !node.isFolder && !node.isLocked && !isRead(node);
            return isReading ? 1 + node.text.size() : 1;
        }
        return crawling() != null ? 1 : 0;
    }

    private boolean isRead(Node file) {
        Entry entry = known.get(file.number);
        return entry != null && entry.edition == file.edition;
    }

    private void next() {
        if (noisy() != null) {
            hear(noisy());
        } else if (ready() != null) {
            act(all.get(ready()));
        } else {
            crawlOn(crawling());
        }
    }

    private void hear(Root root) {
        if (root.isFlooded) {
            root.isFlooded = false;
            beginCrawl(root);
        } else {
            Notice first = root.queue.remove(0);
            todo.put(first.node.number, first.kind.equals("GONE") ? "DROP" : "LOOK");
        }
    }

    private void act(Node node) {
        int number = node.number;
        String kind = todo.remove(number);
        if (rootOver(node) == null) {
            drop(number);
        } else if (kind.equals("DROP")) {
            todo.put(number, "LOOK");
        } else if (node.isFolder) {
            learnPlace(node);
            lyingIn(node).forEach(n -> todo.put(n.number, "LOOK"));
        } else if (node.isLocked) {
            todo.put(number, "LOOK");
            putOff.add(number);
        } else if (isRead(node)) {
            learnPlace(node);
        } else {
            Entry entry = learnPlace(node);
            entry.edition = node.edition;
            entry.words = wordsOf(node.text);
            readNow.add(number);
        }
    }

    private Entry learnPlace(Node node) {
        Entry entry = known.computeIfAbsent(node.number, n -> new Entry());
        entry.parent = node.parent.number;
        entry.name = node.name;
        return entry;
    }

    /** Grows the set until nothing comes to it any more. */
    private Set<Integer> knownBelow(int folder) {
        Set<Integer> below = new HashSet<>();
        boolean hasGrown = true;
        while (hasGrown) {
            hasGrown = false;
            for (Map.Entry<Integer, Entry> each : known.entrySet()) {
                int parent = each.getValue().parent;
                boolean isBelow = parent == folder || below.contains(parent) && root(parent) == null;
                hasGrown |= isBelow && below.add(each.getKey());
            }
        }
        return below;
    }

    private void drop(int number) {
        Set<Integer> going = root(number) != null ? new HashSet<>() : knownBelow(number);
        going.add(number);
        known.keySet().removeAll(going);
        for (List<Place> segment : index) {
            segment.stream().filter(p -> going.contains(p.node)).forEach(p -> p.isDead = true);
        }
    }

    private void crawlOn(Root root) {
        int number = root.waiting.iterator().next();
        root.waiting.remove(number);
        Node folder = there(number);
        if (folder != null && (folder == root.folder || rootOver(folder) == root)) {
            for (Node node : lyingIn(folder)) {
                root.met.add(node.number);
                if (isBehind(node)) {
                    todo.put(node.number, "LOOK");
                }
                if (node.isFolder) {
                    root.waiting.add(node.number);
                }
            }
        }
        if (root.waiting.isEmpty()) {
            root.waiting = null;
            for (int entry : known.keySet()) {
                if (!root.met.contains(entry)) {
                    todo.put(entry, "LOOK");
                }
            }
        }
    }

    private boolean isBehind(Node node) {
        Entry entry = known.get(node.number);
        return entry == null || entry.parent != node.parent.number || entry.name != node.name
                || !node.isFolder && entry.edition != node.edition;
    }

    private List<Integer> wordsOf(List<Integer> text) {
        Deque<Integer> open = new ArrayDeque<>();
        for (int i = 0; i < text.size(); i++) {
            if (text.get(i) == OPEN) {
                open.addLast(i);
            } else if (text.get(i) == CLOSE && !open.isEmpty()) {
                open.removeLast();
            }
        }
        int end = open.isEmpty() ? text.size() : open.getFirst();
        List<Integer> words = new ArrayList<>();
        int depth = 0;
        for (int mark : text.subList(0, end)) {
            if (mark == OPEN) {
                depth++;
            } else if (mark == CLOSE) {
                depth -= depth > 0 ? 1 : 0;
            } else if (depth <= depthLimit && words.size() < wordLimit) {
                words.add(mark);
            }
        }
        return words;
    }

    private void endSegments() {
        List<Place> fresh = new ArrayList<>();
        for (int number : readNow) {
            if (known.containsKey(number)) {
                for (List<Place> segment : index) {
                    segment.stream().filter(p -> p.node == number).forEach(p -> p.isDead = true);
                }
                fresh.add(new Place(number));
            }
        }
        readNow.clear();
        if (!fresh.isEmpty()) {
            index.add(fresh);
        }
        index.removeIf(s -> s.stream().allMatch(p -> p.isDead));
        while (index.size() > 3) {
            int best = 0;
            for (int i = 1; i + 1 < index.size(); i++) {
                best = pairSize(i) < pairSize(best) ? i : best;
            }
            List<Place> joined = new ArrayList<>(index.get(best));
            joined.addAll(index.remove(best + 1));
            joined.removeIf(p -> p.isDead);
            index.set(best, joined);
        }
    }

    private int pairSize(int first) {
        return index.get(first).size() + index.get(first + 1).size();
    }

    int crawl(int number) {
        Root root = root(number);
        index(root != null);
        beginCrawl(root);
        return (int) roots.stream().filter(r -> r.waiting != null).count();
    }

    int acts() {
        return todo.size();
    }

    boolean isQuiet() {
        return noisy() == null && todo.isEmpty() && crawling() == null;
    }

    int entries() {
        return known.size();
    }

    int edition(int number) {
        index(number >= 0 && number < all.size());
        Entry entry = known.get(number);
        return entry == null ? NONE : entry.edition;
    }

    int stale() {
        int many = 0;
        for (Node node : all) {
            boolean isBelowRoot = rootOver(node) != null;
            many += isBelowRoot && !node.isFolder && isBehind(node) ? 1 : 0;
            many += !isBelowRoot && known.containsKey(node.number) ? 1 : 0;
        }
        return many;
    }

    int segments() {
        return index.size();
    }

    int dead() {
        return index.stream().mapToInt(s -> (int) s.stream().filter(p -> p.isDead).count()).sum();
    }

    // ---- questions

    private static int score(List<Integer> words, int word, int second) {
        int firsts = (int) words.stream().filter(w -> w == word).count();
        if (second == NONE) {
            return firsts;
        }
        int seconds = (int) words.stream().filter(w -> w == second).count();
        boolean isNeighbour = false;
        for (int i = 0; i + 1 < words.size(); i++) {
            isNeighbour |= words.get(i) == word && words.get(i + 1) == second;
        }
        return firsts == 0 || seconds == 0 ? 0 : firsts + seconds + (isNeighbour ? 10 : 0);
    }

    private void checkQuestion(int person, int word, int second, int folder) {
        index(isIn(person, 0, 3) && (folder == NONE || isIn(folder, 0, all.size() - 1)));
        argument(isIn(word, 0, 99) && isIn(second, NONE, 99));
    }

    private List<int[]> ranked(int person, int word, int second) {
        List<int[]> found = new ArrayList<>();
        for (int number : known.keySet()) {
            Node file = file(number);
            int score = score(known.get(number).words, word, second);
            if (file != null && reads(person, file) && score > 0) {
                found.add(new int[] {score, number});
            }
        }
        found.sort(Comparator.<int[]>comparingInt(f -> -f[0]).thenComparingInt(f -> f[1]));
        return found;
    }

    int answers(int person, int word, int second, int folder) {
        checkQuestion(person, word, second, folder);
        Set<Integer> within = folder == NONE ? known.keySet() : knownBelow(folder);
        return (int) ranked(person, word, second).stream().filter(f -> within.contains(f[1])).count();
    }

    int answersAnew(int person, int word, int second, int folder) {
        checkQuestion(person, word, second, folder);
        int many = 0;
        for (Node node : all) {
            Root root = rootOver(node);
            if (node.isFolder || root == null || !reads(person, node)) {
                continue;
            }
            Set<Node> wide = allBelow(root.folder);
            wide.add(root.folder);
            boolean isWithin = folder == NONE
                    || wide.contains(all.get(folder)) && allBelow(all.get(folder)).contains(node);
            many += isWithin && score(wordsOf(node.text), word, second) > 0 ? 1 : 0;
        }
        return many;
    }

    int answer(int person, int word, int second, int place) {
        checkQuestion(person, word, second, NONE);
        List<int[]> found = ranked(person, word, second);
        index(isIn(place, 0, found.size() - 1));
        return 100 * found.get(place)[0] + found.get(place)[1];
    }

    int closest(int person, int number, int word, int second) {
        Node file = file(number);
        index(isIn(person, 0, 3) && file != null && reads(person, file));
        argument(isIn(word, 0, 99) && isIn(second, 0, 99));
        List<Integer> words = known.containsKey(number) ? known.get(number).words : List.of();
        List<int[]> pairs = new ArrayList<>();
        for (int i = 0; i < words.size(); i++) {
            for (int j = 0; j < words.size(); j++) {
                if (i != j && words.get(i) == word && words.get(j) == second) {
                    pairs.add(new int[] {i, j});
                }
            }
        }
        pairs.sort(Comparator.<int[]>comparingInt(p -> Math.abs(p[0] - p[1]))
                .thenComparingInt(p -> Math.min(p[0], p[1])).thenComparingInt(p -> p[0]));
        return pairs.isEmpty() ? NONE : 100 * pairs.get(0)[0] + pairs.get(0)[1];
    }
}
