import java.util.ArrayList;
import java.util.List;
import java.util.Random;

/**
 * The aim of the document: behind quiet the index is that of the files, however notices were lost.
 * Runs by chance (always the same) spoil what they can; then each root is crawled anew, and the
 * keeper works until all is quiet. Needs no model: what is known is held against what is read
 * afresh.
 */
public final class AimTest {
    private static final int NONE = SearchKeeper.NONE;
    private static final int RUNS = 400;
    private static final int CALLS = 512;
    private static final int SPOILING_CALLS = 250;
    private static final int WORDS = 3;

    private final Random random;
    private final SearchKeeper keeper = new SearchKeeper();
    private final List<Integer> folders = new ArrayList<>(List.of(0));
    private final List<Integer> files = new ArrayList<>();
    private int calls;

    private AimTest(long seed) {
        random = new Random(seed);
    }

    public static void main(String[] args) {
        int found = 0;
        for (int seed = 0; seed < RUNS; seed++) {
            found += new AimTest(seed).run();
        }
        Check.same("the questions found enough", 1, found > 10 * RUNS ? 1 : 0);
        Check.end("AimTest");
    }

    private int run() {
        int depth = random.nextInt(4);
        int words = 1 + random.nextInt(20);
        tried(() -> keeper.limits(depth, words));
        for (int i = 0; i < 8; i++) {
            make();
        }
        while (calls < SPOILING_CALLS) {
            spoil();
        }
        mend();
        Check.promise(24, "quiet behind a crawl of each root");
        Check.due(true, keeper::isQuiet);
        Check.due(0, keeper::stale);
        calls += 2;
        int found = 0;
        while (calls < CALLS - 2) {
            found += ask();
        }
        return found;
    }

    /** Many calls by chance are refused, and change nothing. */
    private long tried(Check.Call call) {
        calls++;
        return Check.answerOf(call);
    }

    private static boolean isRefused(long answer) {
        return answer == Check.INDEX || answer == Check.ARGUMENT || answer == Check.STATE;
    }

    private boolean isOneIn(int many) {
        return random.nextInt(many) == 0;
    }

    private int oneOf(List<Integer> nodes) {
        return nodes.isEmpty() ? 0 : nodes.get(random.nextInt(nodes.size()));
    }

    private int folder() {
        return oneOf(folders);
    }

    private int file() {
        return oneOf(files);
    }

    private char name() {
        return (char) ('a' + random.nextInt(12));
    }

    private void make() {
        boolean isFolder = isOneIn(2);
        int parent = folder();
        char name = name();
        long made = tried(() -> keeper.make(parent, name, isFolder));
        if (!isRefused(made)) {
            (isFolder ? folders : files).add((int) made);
        }
    }

    private void spoil() {
        int folder = folder();
        int file = file();
        int node = isOneIn(2) ? folder : file;
        int other = folder();
        char name = name();
        int word = random.nextInt(WORDS);
        int mark = isOneIn(5) ? -2 - random.nextInt(2) : word;
        int part = random.nextInt(4);
        int steps = 1 + random.nextInt(12);
        switch (random.nextInt(20)) {
            case 0, 1, 2 -> make();
            case 3, 4, 5, 6 -> tried(() -> keeper.write(file, mark));
            case 7, 8, 9 -> tried(() -> keeper.move(node, other, name));
            case 10 -> tried(() -> part == 0 ? keeper.remove(node) : keeper.empty(file));
            case 11 -> tried(() -> keeper.lock(file, part < 2) ? 1 : 0);
            case 12 -> tried(() -> keeper.people(node, 15 - (1 << part)));
            case 13 -> tried(() -> keeper.watch(folder));
            case 14 -> tried(() -> keeper.twice(folder));
            case 15, 16 -> tried(() -> keeper.lose(folder, 1 + 2 * part));
            default -> tried(() -> keeper.work(steps));
        }
    }

    private void mend() {
        for (int file : files) {
            tried(() -> keeper.lock(file, false) ? 1 : 0);
        }
        for (int folder : folders) {
            tried(() -> keeper.crawl(folder));
        }
        for (int i = 0; i < 5; i++) {
            tried(() -> keeper.work(500));
        }
    }

    /** How many files were found. */
    private int ask() {
        int person = random.nextInt(4);
        int word = random.nextInt(WORDS);
        int second = isOneIn(2) ? NONE : random.nextInt(WORDS);
        int folder = isOneIn(2) ? NONE : folder();
        Check.promise(28, "behind quiet the index is that of the files");
        int many = keeper.answersAnew(person, word, second, folder);
        Check.due(many, () -> keeper.answers(person, word, second, folder));
        calls += 2;
        if (folder == NONE && calls + 2 * many + 1 <= CALLS) {
            ranked(person, word, second, many);
        }
        return many;
    }

    private void ranked(int person, int word, int second, int many) {
        Check.promise(29, "by falling scores, of several by rising numbers");
        int before = Integer.MAX_VALUE;
        for (int place = 0; place < many; place++) {
            int at = place;
            int answer = (int) Check.answerOf(() -> keeper.answer(person, word, second, at));
            int score = answer / 100;
            int file = answer % 100;
            boolean isInOrder = before / 100 > score
                    || before / 100 == score && before % 100 < file;
            Check.due(true, () -> isInOrder);
            Check.due(true, () -> keeper.mayRead(person, file));
            before = answer;
        }
        Check.due(Check.INDEX, () -> keeper.answer(person, word, second, many));
        calls += 2 * many + 1;
    }
}
