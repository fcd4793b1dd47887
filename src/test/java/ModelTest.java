import java.util.List;
import java.util.Random;
import java.util.TreeMap;

/**
 * Long runs by chance, always the same ones, on SearchKeeper and on PlainModel beside it. A run has
 * as many calls as an object is used for.
 */
public final class ModelTest {
    private static final int CALLS = 512;
    private static final int STYLES = 6;
    private final Random random;
    private final SearchKeeper keeper = new SearchKeeper();
    private final PlainModel model = new PlainModel();
    private final StringBuilder told = new StringBuilder();
    private static final TreeMap<String, Integer> OUTCOMES = new TreeMap<>();
    private final int nameCount;
    private final int wordCount;
    private final int wrongPart;
    private final int containerPart;
    /**
     * 0: plain; 1: little work at a time; 2: watching changes often; 3: folders, moves, losses;
     * 4: nearly all nodes made at first; 5: full texts, and many questions.
     */
    private final int style;
    private int made = 1;
    private int calls;
    private boolean isSame = true;

    private ModelTest(long seed) {
        random = new Random(seed);
        nameCount = 2 + random.nextInt(25);
        wordCount = 1 + random.nextInt(6);
        style = random.nextInt(STYLES);
        containerPart = isOneIn(2) ? 1000 : 6 + random.nextInt(10);
        wrongPart = 10 + random.nextInt(60);
    }

    public static void main(String[] args) {
        int runs = args.length > 0 ? Integer.parseInt(args[0]) : 1000;
        long first = args.length > 1 ? Long.parseLong(args[1]) : 0;
        for (int run = 0; run < runs; run++) {
            new ModelTest(first + run).run();
        }
        for (String call : "make write empty move remove lock people mayRead watch notices twice lose pass limits work crawl edition answers answersAnew answer closest".split(" ")) {
            Check.same(call + " was answered in no run", 1, OUTCOMES.containsKey(call) ? 1 : 0);
        }
        if (args.length > 0) {
            System.out.println(OUTCOMES);
        }
        Check.end("ModelTest");
    }

    private void run() {
        for (int i = 0; i < (style == 4 ? 70 : 6); i++) {
            make();
        }
        watch();
        // No action has more than ten calls.
        while (calls < CALLS - 10 && isSame) {
            act();
            observe();
        }
        Check.same("calls of a run", 1, calls <= CALLS ? 1 : 0);
    }

    private void compare(String call, Check.Call got, Check.Call want) {
        calls++;
        long due = Check.answerOf(want);
        long answer = Check.answerOf(got);
        told.append(call).append(" = ").append(due).append('\n');
        String name = call.substring(0, call.indexOf('('));
        String kind = due == Check.INDEX ? "!index" : due == Check.ARGUMENT ? "!argument"
                : due == Check.STATE ? "!state" : "";
        OUTCOMES.merge(name + kind, 1, Integer::sum);
        if (isSame && !Check.same(call, due, answer)) {
            isSame = false;
            System.out.println(told);
        }
    }

    private boolean isOneIn(int many) {
        return random.nextInt(many) == 0;
    }

    private int node() {
        return isOneIn(wrongPart) ? random.nextInt(66) - 3 : random.nextInt(made);
    }

    private int kind(boolean isFolder) {
        List<Integer> fit = model.numbers(isFolder);
        return fit.isEmpty() || isOneIn(wrongPart) ? node() : fit.get(random.nextInt(fit.size()));
    }

    private int folder() {
        return kind(true);
    }

    private int file() {
        return kind(false);
    }

    private int any() {
        return kind(isOneIn(2));
    }

    private char name() {
        return isOneIn(wrongPart) ? (char) ('`' + 27 * random.nextInt(2))
                : (char) ('a' + random.nextInt(nameCount));
    }

    private int word() {
        return isOneIn(wrongPart) ? random.nextInt(106) - 4 : random.nextInt(wordCount);
    }

    private int mark() {
        int chance = random.nextInt(containerPart);
        return chance == 0 ? -2 : chance < 3 ? -3 : word();
    }

    private int second() {
        return isOneIn(3) ? -1 : word();
    }

    private int person() {
        return isOneIn(wrongPart) ? random.nextInt(8) - 2 : random.nextInt(4);
    }

    private int root() {
        List<Integer> roots = model.rootNumbers();
        return roots.isEmpty() || isOneIn(wrongPart) ? node() : roots.get(random.nextInt(roots.size()));
    }

    private int folderOrNone() {
        return isOneIn(3) ? -1 : isOneIn(2) ? folder() : root();
    }

    private void act() {
        int chance = random.nextInt(style == 5 ? 120 : 100);
        if (chance < 14) {
            make();
        } else if (chance < 30) {
            write();
        } else if (chance < 32) {
            int file = file();
            compare("empty(" + file + ")", () -> keeper.empty(file), () -> model.empty(file));
        } else if (chance < 42) {
            move();
        } else if (chance < (style == 0 ? 42 : style == 1 ? 43 : 45)) {
            remove();
        } else if (chance < 49) {
            lock();
        } else if (chance < 51) {
            people();
        } else if (chance < (style == 2 ? 56 : 53)) {
            watch();
        } else if (chance < 60) {
            spoil();
        } else if (chance < 63) {
            time();
        } else if (chance < 65) {
            limits();
        } else if (chance < 83) {
            work();
        } else if (chance < (style == 3 ? 88 : 85)) {
            int root = root();
            compare("crawl(" + root + ")", () -> keeper.crawl(root), () -> model.crawl(root));
        } else {
            ask();
        }
    }

    private void make() {
        int parent = folder();
        char name = name();
        boolean isFolder = style == 3 ? !isOneIn(4) : isOneIn(2);
        compare("make(" + parent + ", " + name + ", " + isFolder + ")",
                () -> keeper.make(parent, name, isFolder), () -> model.make(parent, name, isFolder));
        while (Check.answerOf(() -> model.edition(made)) != Check.INDEX) {
            made++;
        }
    }

    private void write() {
        int file = file();
        int times = isOneIn(style == 5 ? 2 : 3) ? 6 : 1;
        for (int i = 0; i < times; i++) {
            int mark = mark();
            compare("write(" + file + ", " + mark + ")",
                    () -> keeper.write(file, mark), () -> model.write(file, mark));
        }
    }

    private void move() {
        boolean isLost = style == 3 && isOneIn(2);
        int node = any();
        int parent = folder();
        char name = name();
        compare("move(" + node + ", " + parent + ", " + name + ")",
                () -> keeper.move(node, parent, name), () -> model.move(node, parent, name));
        if (isLost) {
            int root = root();
            compare("lose(" + root + ", 1)", () -> keeper.lose(root, 1), () -> model.lose(root, 1));
        }
    }

    private void remove() {
        int node = any();
        compare("remove(" + node + ")", () -> keeper.remove(node), () -> model.remove(node));
    }

    private void lock() {
        int file = file();
        boolean isLocked = isOneIn(3);
        compare("lock(" + file + ", " + isLocked + ")",
                () -> keeper.lock(file, isLocked) ? 1 : 0, () -> model.lock(file, isLocked) ? 1 : 0);
    }

    private void people() {
        int node = any();
        int people = isOneIn(wrongPart) ? random.nextInt(20) - 2 : 15 - (1 << random.nextInt(5)) % 16;
        compare("people(" + node + ", " + people + ")",
                () -> keeper.people(node, people), () -> model.people(node, people));
    }

    private void watch() {
        int folder = isOneIn(style == 2 ? 2 : 12) ? root() : folder();
        compare("watch(" + folder + ")", () -> keeper.watch(folder), () -> model.watch(folder));
    }

    private void spoil() {
        int root = root();
        if (isOneIn(2)) {
            compare("twice(" + root + ")", () -> keeper.twice(root), () -> model.twice(root));
        } else {
            int many = random.nextInt(isOneIn(3) ? 11 : 3);
            compare("lose(" + root + ", " + many + ")",
                    () -> keeper.lose(root, many), () -> model.lose(root, many));
        }
    }

    private void time() {
        if (isOneIn(2)) {
            boolean isOn = isOneIn(4);
            compare("battery(" + isOn + ")",
                    () -> keeper.battery(isOn) ? 1 : 0, () -> model.battery(isOn) ? 1 : 0);
        } else {
            int minutes = isOneIn(wrongPart) ? random.nextInt(1200) - 100 : random.nextInt(70);
            compare("pass(" + minutes + ")", () -> keeper.pass(minutes), () -> model.pass(minutes));
        }
    }

    private void limits() {
        int depth = isOneIn(wrongPart) ? random.nextInt(7) - 2 : random.nextInt(4);
        int words = isOneIn(wrongPart) ? random.nextInt(25) - 2 : 1 + random.nextInt(20);
        compare("limits(" + depth + ", " + words + ")",
                () -> keeper.limits(depth, words), () -> model.limits(depth, words));
    }

    private void work() {
        boolean isShort = style == 1 || style == 3 || isOneIn(2);
        int steps = isOneIn(wrongPart) ? random.nextInt(520) - 10
                : isShort ? 1 + random.nextInt(style == 3 ? 3 : 8) : 1 + random.nextInt(500);
        compare("work(" + steps + ")", () -> keeper.work(steps), () -> model.work(steps));
    }

    private void ask() {
        int person = person();
        int word = word();
        int second = second();
        int file = file();
        int folder = folderOrNone();
        int place = random.nextInt(isOneIn(3) ? 7 : 2) - (isOneIn(wrongPart) ? 1 : 0);
        String words = "(" + person + ", " + word + ", " + second + ", ";
        switch (random.nextInt(5)) {
            case 0 -> compare("answers" + words + folder + ")",
                    () -> keeper.answers(person, word, second, folder),
                    () -> model.answers(person, word, second, folder));
            case 1 -> compare("answersAnew" + words + folder + ")",
                    () -> keeper.answersAnew(person, word, second, folder),
                    () -> model.answersAnew(person, word, second, folder));
            case 2 -> compare("answer" + words + place + ")",
                    () -> keeper.answer(person, word, second, place),
                    () -> model.answer(person, word, second, place));
            case 3 -> compare("closest(" + person + ", " + file + ", " + word + ", " + second + ")",
                    () -> keeper.closest(person, file, word, second),
                    () -> model.closest(person, file, word, second));
            default -> compare("mayRead(" + person + ", " + file + ")",
                    () -> keeper.mayRead(person, file) ? 1 : 0,
                    () -> model.mayRead(person, file) ? 1 : 0);
        }
    }

    /** One of the calls that change nothing, behind most actions. */
    private void observe() {
        int node = node();
        int root = root();
        switch (random.nextInt(13)) {
            case 0 -> compare("nodes()", keeper::nodes, model::nodes);
            case 1 -> compare("acts()", keeper::acts, model::acts);
            case 2 -> compare("isQuiet()",
                    () -> keeper.isQuiet() ? 1 : 0, () -> model.isQuiet() ? 1 : 0);
            case 3 -> compare("entries()", keeper::entries, model::entries);
            case 4 -> compare("stale()", keeper::stale, model::stale);
            case 5 -> compare("segments()", keeper::segments, model::segments);
            case 6 -> compare("dead()", keeper::dead, model::dead);
            case 7 -> compare("edition(" + node + ")",
                    () -> keeper.edition(node), () -> model.edition(node));
            case 8 -> compare("notices(" + root + ")",
                    () -> keeper.notices(root), () -> model.notices(root));
            case 9, 10 -> ask();
            default -> { }
        }
    }
}
