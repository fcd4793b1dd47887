import java.util.Arrays;

/** Promises 15 to 24: time, limits, and the work by steps. */
public final class WorkTest {
    private static final long INDEX = Check.INDEX, ARGUMENT = Check.ARGUMENT, STATE = Check.STATE;
    private static final int NONE = SearchKeeper.NONE;
    private static final int OPEN = SearchKeeper.OPEN, CLOSE = SearchKeeper.CLOSE;

    public static void main(String[] args) {
        pass();
        battery();
        batteryAndReading();
        limits();
        takingWords();
        workInputs();
        noticesFirst();
        rootsInOrder();
        reading();
        dropsAndLooks();
        dropsOfRoots();
        putOff();
        folders();
        crawls();
        crawlsMeetAndMiss();
        crawlsOfMovedFolders();
        waitingFolders();
        circles();
        acts();
        editions();
        stale();
        Check.end("WorkTest");
    }

    /** A root 1 (r) with files 2 (f) and 3 (g), and a folder 4 (a) with a file 5 (h); all known. */
    private static SearchKeeper known() {
        SearchKeeper x = Given.house();
        Check.due(6, () -> x.work(500));
        Check.due(4, x::entries);
        return x;
    }

    private static void pass() {
        Check.promise(15, "ordinary, wrong inputs");
        SearchKeeper x = new SearchKeeper();
        Check.due(1, () -> x.pass(1));
        Check.due(1001, () -> x.pass(1000));
        Check.due(ARGUMENT, () -> x.pass(0));
        Check.due(ARGUMENT, () -> x.pass(-1));
        Check.due(ARGUMENT, () -> x.pass(1001));
        Check.due(ARGUMENT, () -> x.pass(Integer.MAX_VALUE));
        Check.promise(15, "100000 at most");
        for (int i = 2; i < 100; i++) {
            x.pass(1000);
        }
        Check.due(99999, () -> x.pass(998));
        Check.due(STATE, () -> x.pass(2));
        Check.due(STATE, () -> x.pass(1000));
        Check.due(ARGUMENT, () -> x.pass(1001));
        Check.due(100000, () -> x.pass(1));
        Check.due(STATE, () -> x.pass(1));
        Check.due(ARGUMENT, () -> x.pass(0));
    }

    private static void battery() {
        Check.promise(16, "20 steps in each hour");
        SearchKeeper x = known();
        Check.due(false, () -> x.battery(true));
        Check.due(true, () -> x.battery(true));
        for (int i = 0; i < 8; i++) {
            x.make(4, (char) ('k' + i), false);
        }
        Check.due(8, () -> x.work(8));
        Check.due(8, x::acts);
        Check.due(8, () -> x.work(8));
        Check.due(0, () -> x.work(2));
        Check.due(0, x::acts);
        for (int i = 0; i < 6; i++) {
            x.empty(2);
        }
        Check.due(3, () -> x.work(3));
        Check.due(1, () -> x.work(2));
        Check.due(0, () -> x.work(1));
        Check.due(ARGUMENT, () -> x.work(0));
        Check.due(ARGUMENT, () -> x.work(501));
        Check.due(2, () -> x.notices(1));
        Check.due(59, () -> x.pass(59));
        Check.due(0, () -> x.work(500));
        Check.due(60, () -> x.pass(1));
        Check.due(3, () -> x.work(500));

        Check.promise(16, "steps without battery do not count, those on battery still do");
        Check.due(true, () -> x.battery(false));
        for (int turn = 0; turn < 5; turn++) {
            for (int i = 0; i < 8; i++) {
                x.empty(2);
            }
            Check.due(9, () -> x.work(500));
        }
        Check.due(false, () -> x.battery(true));
        for (int i = 0; i < 9; i++) {
            x.empty(2);
        }
        Check.due(4, () -> x.work(9));
        for (int i = 0; i < 8; i++) {
            x.empty(3);
        }
        Check.due(9, () -> x.work(500));
        x.crawl(1);
        Check.due(2, () -> x.work(500));
        Check.due(true, () -> x.battery(false));
        x.crawl(1);
        Check.due(2, () -> x.work(500));
        Check.due(false, () -> x.battery(true));
        x.crawl(1);
        Check.due(2, () -> x.work(500));
        x.crawl(1);
        Check.due(0, () -> x.work(500));
        x.pass(60);
        Check.due(2, () -> x.work(500));
        x.crawl(1);
        x.pass(1000);
        Check.due(2, () -> x.work(500));
    }

    private static void batteryAndReading() {
        Check.promise(18, "a text that is too long for what is left is not begun");
        SearchKeeper x = known();
        x.battery(true);
        for (int i = 0; i < 20; i++) {
            x.write(2, i);
        }
        x.write(3, 7);
        Check.due(NONE, () -> x.notices(1));
        Check.due(2, () -> x.work(500));
        Check.due(2, x::acts);
        x.pass(60);
        Check.due(0, () -> x.work(500));
        Check.due(2, x::acts);
        Check.due(1, () -> x.edition(3));
        x.battery(false);
        Check.due(0, () -> x.work(20));
        Check.due(21, () -> x.work(21));
        Check.due(1, x::acts);
        Check.due(21, () -> x.edition(2));
        Check.due(0, () -> x.work(1));
        Check.due(3, () -> x.work(500));
        Check.due(true, x::isQuiet);
    }

    private static void limits() {
        Check.promise(17, "ordinary, wrong inputs");
        SearchKeeper x = new SearchKeeper();
        Check.due(12, () -> x.limits(0, 1));
        Check.due(1, () -> x.limits(3, 20));
        Check.due(ARGUMENT, () -> x.limits(-1, 1));
        Check.due(ARGUMENT, () -> x.limits(4, 1));
        Check.due(ARGUMENT, () -> x.limits(0, 0));
        Check.due(ARGUMENT, () -> x.limits(0, 21));
        Check.due(20, () -> x.limits(2, 12));

        Check.promise(17, "entries stay as they are");
        SearchKeeper y = known();
        Given.fill(y, 2, 1, 2, 3);
        y.work(500);
        Check.due(12, () -> y.limits(0, 1));
        Check.due(1, () -> y.answers(0, 3, NONE, 1));
        Check.due(0, () -> y.answersAnew(0, 3, NONE, 1));
        y.write(2, 4);
        Check.due(6, () -> y.work(500));
        Check.due(1, () -> y.answers(0, 1, NONE, 1));
        Check.due(0, () -> y.answers(0, 2, NONE, 1));
        y.limits(2, 20);
        y.crawl(1);
        y.work(500);
        Check.due(0, () -> y.answers(0, 2, NONE, 1));
        Check.due(1, () -> y.answersAnew(0, 2, NONE, 1));
    }

    /** The words that are taken, one after the other: 100 for each place, and the word. */
    private static void taken(int depth, int words, int[] marks, int... due) {
        SearchKeeper x = known();
        Given.fill(x, 2, marks);
        x.limits(depth, words);
        x.work(500);
        Check.due(marks.length + 1, () -> x.edition(2));
        int[] found = new int[100];
        for (int word : due) {
            found[word]++;
        }
        for (int word = 0; word < 100; word++) {
            int each = word;
            int score = found[word];
            Check.due(score > 0 ? 1 : 0, () -> x.answers(0, each, NONE, NONE));
            Check.due(score > 0 ? 1 : 0, () -> x.answersAnew(0, each, NONE, NONE));
            Check.due(score > 0 ? 100 * score + 2 : INDEX, () -> x.answer(0, each, NONE, 0));
        }
        for (int place = 1; place < due.length; place++) {
            int first = due[place - 1];
            int second = due[place];
            int score = found[first] + found[second] + 10;
            Check.due(100 * score + 2, () -> x.answer(0, first, second, 0));
        }
    }

    private static void takingWords() {
        Check.promise(18, "taking words: depth");
        int[] nested = {1, OPEN, 2, OPEN, 3, OPEN, 4, OPEN, 5, CLOSE, 6, CLOSE, 7, CLOSE, 8, CLOSE, 9};
        taken(0, 20, nested, 1, 9);
        taken(1, 20, nested, 1, 2, 8, 9);
        taken(2, 20, nested, 1, 2, 3, 7, 8, 9);
        taken(3, 20, nested, 1, 2, 3, 4, 6, 7, 8, 9);

        Check.promise(18, "taking words: fewer than the limit of words");
        taken(2, 1, nested, 1);
        taken(2, 4, nested, 1, 2, 3, 7);
        taken(0, 2, nested, 1, 9);
        int[] long20 = new int[20];
        for (int place = 0; place < 20; place++) {
            long20[place] = 40 + place;
        }
        taken(2, 20, long20, long20);
        taken(2, 12, long20, Arrays.copyOf(long20, 12));

        Check.promise(18, "taking words: a CLOSE with nothing open is passed over");
        taken(0, 20, new int[] {CLOSE, 1, CLOSE, CLOSE, OPEN, 2, CLOSE, 3}, 1, 3);
        taken(0, 20, new int[] {1, OPEN, CLOSE, CLOSE, 2, OPEN, 5, CLOSE}, 1, 2);

        Check.promise(18, "taking words: nothing behind an OPEN that is never closed");
        taken(3, 20, new int[] {1, 2, OPEN, 3, 4}, 1, 2);
        taken(3, 20, new int[] {1, OPEN, 2, OPEN, 3, CLOSE, 4}, 1);
        taken(3, 20, new int[] {1, OPEN, 2, CLOSE, 3, OPEN, 4, OPEN, CLOSE}, 1, 2, 3);
        taken(3, 20, new int[] {OPEN, 1, CLOSE, 2, CLOSE, OPEN, 3}, 1, 2);
        taken(3, 20, new int[] {OPEN, OPEN, 1, CLOSE});
        taken(0, 20, new int[] {1, OPEN, OPEN, CLOSE, CLOSE, 2, OPEN}, 1, 2);
        taken(2, 12, new int[] {});
    }

    private static void workInputs() {
        Check.promise(18, "wrong inputs");
        SearchKeeper x = known();
        x.write(2, 1);
        Check.due(ARGUMENT, () -> x.work(0));
        Check.due(ARGUMENT, () -> x.work(-1));
        Check.due(ARGUMENT, () -> x.work(501));
        Check.due(ARGUMENT, () -> x.work(Integer.MIN_VALUE));
        Check.due(1, () -> x.notices(1));
        Check.due(1, () -> x.work(1));
        Check.due(2, () -> x.work(500));
        Check.due(0, () -> x.work(500));
    }

    private static void noticesFirst() {
        Check.promise(18, "notices before acts before crawls");
        SearchKeeper x = known();
        x.crawl(1);
        x.write(2, 1);
        Check.due(1, () -> x.work(1));
        Check.due(0, () -> x.notices(1));
        Check.due(1, x::acts);
        x.make(1, 'b', false);
        Check.due(1, () -> x.work(1));
        Check.due(2, x::acts);
        Check.due(2, () -> x.work(2));
        Check.due(2, () -> x.edition(2));
        Check.due(NONE, () -> x.edition(6));
        Check.due(1, () -> x.work(1));
        Check.due(1, () -> x.edition(6));
        Check.due(false, x::isQuiet);
        Check.due(2, () -> x.work(500));
        Check.due(true, x::isQuiet);

        Check.promise(18, "a flood is one step, and the crawl begins anew");
        for (int i = 0; i < 9; i++) {
            x.write(3, i);
        }
        Check.due(1, () -> x.work(1));
        Check.due(0, x::acts);
        Check.due(0, () -> x.notices(1));
        Check.due(1, () -> x.work(1));
        Check.due(1, x::acts);
        Check.due(11, () -> x.work(500));
        Check.due(0, x::stale);
    }

    private static void rootsInOrder() {
        Check.promise(18, "the root that was watched first comes first");
        SearchKeeper x = new SearchKeeper();
        x.make(0, 'r', true);
        x.make(0, 's', true);
        x.watch(2);
        x.watch(1);
        x.make(1, 'f', false);
        x.make(2, 'g', false);
        Check.due(1, () -> x.work(1));
        Check.due(1, () -> x.notices(1));
        Check.due(0, () -> x.notices(2));
        for (int i = 0; i < 9; i++) {
            x.empty(3);
        }
        x.empty(4);
        Check.due(1, () -> x.work(1));
        Check.due(NONE, () -> x.notices(1));
        Check.due(0, () -> x.notices(2));
        Check.due(1, () -> x.work(1));
        Check.due(0, () -> x.notices(1));
        Check.due(1, x::acts);
        Check.due(1, () -> x.work(1));
        Check.due(1, () -> x.work(1));
        Check.due(1, x::entries);
        Check.due(2, () -> x.crawl(2));
        Check.due(2, () -> x.work(2));
        Check.due(2, x::acts);
        Check.due(2, () -> x.edition(4));
        Check.due(1, () -> x.work(1));
        Check.due(10, () -> x.edition(3));

        Check.promise(18, "a crawl that ends looks at each entry that it did not meet");
        Check.due(1, x::acts);
        Check.due(1, () -> x.work(500));
        Check.due(true, x::isQuiet);
        Check.due(2, x::entries);
        Check.due(1, () -> x.crawl(1));
        Check.due(1, () -> x.work(1));
        Check.due(1, x::acts);
        Check.due(1, () -> x.work(500));
    }

    private static void reading() {
        Check.promise(18, "a step, and one for each mark, unless the edition is known");
        SearchKeeper x = known();
        Given.fill(x, 2, 1, OPEN, CLOSE);
        Check.due(3, () -> x.work(3));
        Check.due(0, () -> x.work(3));
        Check.due(1, () -> x.edition(2));
        Check.due(4, () -> x.work(4));
        Check.due(4, () -> x.edition(2));
        x.move(2, 1, 'z');
        Check.due(1, x::stale);
        Check.due(2, () -> x.work(500));
        Check.due(0, x::stale);
        x.move(2, 4, 'z');
        x.write(2, 5);
        Check.due(2, () -> x.work(2));
        Check.due(5, () -> x.work(500));
        Check.due(1, () -> x.answers(0, 5, NONE, 4));
    }

    private static void dropsAndLooks() {
        Check.promise(18, "a drop takes all that lies below, as the keeper knows it");
        SearchKeeper x = known();
        x.remove(4);
        Check.due(2, x::stale);
        Check.due(1, () -> x.work(1));
        Check.due(4, x::entries);
        Check.due(1, () -> x.work(1));
        Check.due(2, x::entries);
        Check.due(true, x::isQuiet);

        Check.promise(18, "what is below a root now is not dropped, but looked at in the end");
        SearchKeeper y = known();
        y.move(4, 0, 'a');
        y.empty(3);
        Check.due(2, () -> y.work(2));
        y.move(4, 1, 'b');
        y.lose(1, 1);
        Check.due(1, () -> y.work(1));
        Check.due(2, y::acts);
        Check.due(4, y::entries);
        Check.due(1, () -> y.work(1));
        Check.due(2, () -> y.edition(3));
        Check.due(1, y::acts);
        Check.due(2, () -> y.work(500));
        Check.due(0, y::stale);

        Check.promise(18, "one act for a node: at its place, what was added last");
        SearchKeeper z = known();
        z.empty(2);
        z.empty(3);
        Check.due(2, () -> z.work(2));
        z.remove(2);
        Check.due(1, () -> z.work(1));
        Check.due(2, z::acts);
        Check.due(1, () -> z.work(1));
        Check.due(NONE, () -> z.edition(2));
        Check.due(1, () -> z.edition(3));
        Check.due(1, () -> z.work(1));
        Check.due(2, () -> z.edition(3));

        Check.promise(18, "a look at what is gone, or below no root, is a drop");
        SearchKeeper w = known();
        w.move(4, 1, 'b');
        Check.due(1, () -> w.work(1));
        w.move(4, 0, 'b');
        w.lose(1, 1);
        Check.due(1, () -> w.work(500));
        Check.due(2, w::entries);
        w.empty(2);
        Check.due(1, () -> w.work(1));
        w.remove(2);
        w.lose(1, 1);
        Check.due(1, () -> w.work(500));
        Check.due(1, w::entries);
    }

    private static void dropsOfRoots() {
        Check.promise(18, "the drop of a root takes its entry alone");
        SearchKeeper x = known();
        Check.due(0, () -> x.watch(1));
        Check.due(1, () -> x.watch(4));
        Check.due(4, x::acts);
        Check.due(3, x::stale);
        Check.due(2, () -> x.work(2));
        Check.due(2, x::entries);
        Check.due(1, () -> x.work(1));
        Check.due(NONE, () -> x.edition(4));
        Check.due(1, () -> x.edition(5));
        Check.due(2, () -> x.work(500));
        Check.due(1, x::entries);
        Check.due(0, x::stale);
        Check.due(1, x::segments);

        Check.promise(18, "ways end at roots: what lies below one stays when what is above is dropped");
        SearchKeeper y = new SearchKeeper();
        y.make(0, 'r', true);
        y.make(1, 'a', true);
        y.make(2, 'b', true);
        y.make(3, 'f', false);
        y.watch(1);
        y.work(500);
        Check.due(3, y::entries);
        y.watch(1);
        y.watch(3);
        Check.due(1, () -> y.work(1));
        Check.due(1, y::entries);
        Check.due(1, () -> y.edition(4));
        Check.due(NONE, () -> y.edition(3));
    }

    private static void putOff() {
        Check.promise(18, "a locked file is put off until the work ends");
        SearchKeeper x = known();
        x.write(2, 1);
        x.write(3, 1);
        x.lock(2, true);
        Check.due(5, () -> x.work(500));
        Check.due(1, x::acts);
        Check.due(false, x::isQuiet);
        Check.due(1, () -> x.work(500));
        Check.due(1, x::acts);
        Check.due(1, x::stale);

        Check.promise(18, "at the end of the acts");
        x.empty(3);
        x.lock(2, false);
        Check.due(1, () -> x.work(1));
        x.lock(2, true);
        Check.due(1, () -> x.work(1));
        x.lock(2, false);
        Check.due(1, () -> x.work(1));
        Check.due(3, () -> x.edition(3));
        Check.due(1, () -> x.edition(2));
        Check.due(2, () -> x.work(500));
        Check.due(2, () -> x.edition(2));

        Check.promise(18, "whatever is added for it meanwhile");
        x.write(5, 1);
        x.lock(5, true);
        x.move(4, 1, 'a');
        x.crawl(1);
        Check.due(6, () -> x.work(500));
        Check.due(1, x::acts);
        Check.due(1, () -> x.work(500));
        x.lock(5, false);
        x.remove(5);
        Check.due(1, x::acts);
        Check.due(2, () -> x.work(500));
        Check.due(3, x::entries);
        Check.due(true, x::isQuiet);

        Check.promise(18, "what comes behind it is done before the work ends");
        SearchKeeper w = known();
        w.lock(2, true);
        w.move(2, 1, 'z');
        w.make(4, 'k', false);
        w.lose(1, 1);
        w.crawl(1);
        // The notice, the look that is put off, two folders crawled, and the file in the second one.
        Check.due(5, () -> w.work(500));
        Check.due(1, () -> w.edition(6));
        Check.due(1, w::acts);
        w.lock(2, false);
        Check.due(1, () -> w.work(500));
        Check.due(0, w::stale);

        Check.promise(18, "a locked file that is known, or gone from all roots");
        SearchKeeper y = known();
        y.lock(2, true);
        y.move(2, 1, 'z');
        Check.due(2, () -> y.work(500));
        Check.due(1, y::stale);
        Check.due(1, y::acts);
        y.move(2, 0, 'z');
        Check.due(2, () -> y.work(500));
        Check.due(NONE, () -> y.edition(2));
        Check.due(true, y::isQuiet);
    }

    private static void folders() {
        Check.promise(18, "a look at a folder looks at all in it, by rising numbers");
        SearchKeeper x = new SearchKeeper();
        x.make(0, 'r', true);
        x.watch(1);
        x.work(500);
        x.make(0, 'a', true);
        x.make(2, 'z', false);
        x.make(2, 'b', true);
        x.make(4, 'f', false);
        x.make(2, 'a', false);
        x.move(2, 1, 'a');
        Check.due(2, () -> x.work(2));
        Check.due(0, () -> x.edition(2));
        Check.due(3, x::acts);
        Check.due(1, () -> x.work(1));
        Check.due(1, () -> x.edition(3));
        Check.due(NONE, () -> x.edition(4));
        Check.due(1, () -> x.work(1));
        Check.due(0, () -> x.edition(4));
        Check.due(2, x::acts);
        Check.due(1, () -> x.work(1));
        Check.due(1, () -> x.edition(6));
        Check.due(1, () -> x.work(500));
        Check.due(1, () -> x.edition(5));
    }

    private static void crawls() {
        Check.promise(19, "begins anew, counts the crawls that go on");
        SearchKeeper x = new SearchKeeper();
        x.make(0, 'r', true);
        x.make(0, 's', true);
        x.make(1, 'a', true);
        x.make(1, 'b', true);
        x.make(3, 'c', true);
        x.watch(1);
        x.watch(2);
        Check.due(2, () -> x.crawl(1));
        Check.due(11, () -> x.work(500));
        Check.due(1, () -> x.crawl(2));
        Check.due(2, () -> x.crawl(1));
        Check.due(4, () -> x.work(4));
        Check.due(1, () -> x.crawl(2));
        Check.due(1, () -> x.work(1));
        Check.due(3, x::acts);
        Check.due(3, () -> x.work(500));
        Check.due(true, x::isQuiet);
        x.crawl(1);
        Check.due(3, () -> x.work(3));
        Check.due(1, () -> x.crawl(1));
        Check.due(4, () -> x.work(500));

        Check.promise(19, "wrong inputs");
        Check.due(INDEX, () -> x.crawl(0));
        Check.due(INDEX, () -> x.crawl(3));
        Check.due(INDEX, () -> x.crawl(-1));
        Check.due(INDEX, () -> x.crawl(99));
        x.watch(2);
        Check.due(INDEX, () -> x.crawl(2));
    }

    private static void crawlsMeetAndMiss() {
        Check.promise(18, "a crawl mends what lost notices left");
        SearchKeeper x = known();
        x.write(2, 7);
        x.move(3, 1, 'x');
        x.remove(5);
        x.make(4, 'i', false);
        x.lose(1, 8);
        Check.due(4, x::stale);
        Check.due(0, () -> x.work(500));
        x.crawl(1);
        Check.due(1, () -> x.work(1));
        Check.due(2, x::acts);
        Check.due(3, () -> x.work(3));
        Check.due(1, () -> x.work(1));
        Check.due(2, x::acts);
        Check.due(2, () -> x.work(2));
        Check.due(0, x::stale);
        Check.due(true, x::isQuiet);

        Check.promise(18, "a folder with another name, or in another folder, is looked at");
        x.make(1, 'd', true);
        x.work(500);
        x.move(4, 7, 'a');
        x.lose(1, 1);
        Check.due(0, x::stale);
        x.crawl(1);
        Check.due(2, () -> x.work(2));
        Check.due(1, x::acts);
        Check.due(3, () -> x.work(500));
        Check.due(1, () -> x.answers(0, 7, NONE, 1));
        x.move(7, 1, 'e');
        x.lose(1, 1);
        x.crawl(1);
        Check.due(1, () -> x.work(1));
        Check.due(1, x::acts);
    }

    private static void crawlsOfMovedFolders() {
        Check.promise(18, "a folder that waits and goes elsewhere is passed over, at a step");
        SearchKeeper x = known();
        x.crawl(1);
        Check.due(1, () -> x.work(1));
        x.move(4, 0, 'a');
        x.make(4, 'k', false);
        Check.due(2, () -> x.work(2));
        Check.due(2, x::entries);
        Check.due(1, () -> x.work(500));
        Check.due(true, x::isQuiet);
        Check.due(2, x::entries);
    }

    /** A root 1 with the folders 2 (a), 3 (b) and 4 (c); the crawl has met them, and they wait. */
    private static SearchKeeper waiting() {
        SearchKeeper x = new SearchKeeper();
        x.make(0, 'r', true);
        x.make(1, 'a', true);
        x.make(1, 'b', true);
        x.make(1, 'c', true);
        x.watch(1);
        x.work(500);
        x.crawl(1);
        Check.due(1, () -> x.work(1));
        return x;
    }

    private static void waitingFolders() {
        Check.promise(18, "folders wait in the order in which they were met");
        SearchKeeper x = waiting();
        x.make(2, 'f', false);
        x.make(3, 'g', false);
        x.make(4, 'h', false);
        x.lose(1, 8);
        Check.due(2, () -> x.work(2));
        Check.due(1, () -> x.edition(5));
        Check.due(2, () -> x.work(2));
        Check.due(1, () -> x.edition(6));
        Check.due(NONE, () -> x.edition(7));
        Check.due(2, () -> x.work(500));
        Check.due(1, () -> x.edition(7));

        Check.promise(18, "what waits already does not wait once more");
        SearchKeeper y = waiting();
        y.move(4, 2, 'c');
        y.lose(1, 8);
        // Folder 2, the look at 4 in it, and then 3 and 4.
        Check.due(4, () -> y.work(500));
        Check.due(true, y::isQuiet);

        Check.promise(18, "what waited before, and is met again, waits again");
        SearchKeeper z = waiting();
        Check.due(1, () -> z.work(1));
        z.move(2, 4, 'a');
        z.lose(1, 8);
        // The folders 3 and 4, the look at 2 in it, and 2.
        Check.due(4, () -> z.work(500));
        Check.due(true, z::isQuiet);

        Check.promise(18, "a crawl that begins anew forgets what it met and what waited");
        SearchKeeper w = waiting();
        w.crawl(1);
        w.remove(4);
        w.lose(1, 8);
        Check.due(3, () -> w.work(3));
        Check.due(1, w::acts);
        Check.due(1, () -> w.work(500));
        Check.due(2, w::entries);
        SearchKeeper top = new SearchKeeper();
        top.watch(0);
        top.make(0, 'a', false);
        Check.due(3, () -> top.work(500));
        Check.due(1, () -> top.crawl(0));
        Check.due(1, () -> top.crawl(0));
        Check.due(1, () -> top.work(500));
        Check.due(true, top::isQuiet);
    }

    private static void circles() {
        Check.promise(18, "entries that lead in a circle");
        SearchKeeper x = new SearchKeeper();
        x.make(0, 'r', true);
        x.make(1, 'a', true);
        x.make(2, 'b', true);
        x.make(3, 'f', false);
        x.write(4, 9);
        x.watch(1);
        x.work(500);
        x.move(3, 1, 'b');
        x.move(2, 3, 'a');
        x.lose(1, 2);
        x.move(2, 3, 'a');
        Check.due(2, () -> x.work(2));
        Check.due(1, () -> x.answers(0, 9, NONE, 2));
        Check.due(1, () -> x.answers(0, 9, NONE, 3));
        Check.due(0, () -> x.answers(0, 9, NONE, 1));
        Check.due(0, () -> x.answers(0, 9, NONE, 4));
        Check.due(1, () -> x.answers(0, 9, NONE, NONE));
        x.remove(2);
        Check.due(2, () -> x.work(2));
        Check.due(0, x::entries);
        x.crawl(1);
        x.work(500);
        Check.due(0, x::stale);
        Check.due(2, x::entries);
    }

    private static void acts() {
        Check.promise(20, "acts, one for a node");
        SearchKeeper x = known();
        x.write(2, 1);
        x.write(2, 2);
        x.write(3, 1);
        x.remove(3);
        Check.due(0, x::acts);
        Check.due(4, () -> x.work(4));
        Check.due(2, x::acts);
        Check.promise(21, "notices, acts, crawls are not quiet");
        Check.due(false, x::isQuiet);
        Check.due(4, () -> x.work(500));
        Check.due(0, x::acts);
        Check.due(true, x::isQuiet);
        x.empty(2);
        Check.due(false, x::isQuiet);
        x.lose(1, 1);
        Check.due(true, x::isQuiet);
        x.crawl(1);
        Check.due(false, x::isQuiet);
        x.work(500);
        Check.due(true, x::isQuiet);
        for (int i = 0; i < 9; i++) {
            x.empty(2);
        }
        Check.due(false, x::isQuiet);
    }

    private static void editions() {
        Check.promise(22, "entries");
        SearchKeeper x = known();
        Check.due(4, x::entries);
        x.make(1, 'b', true);
        Check.due(4, x::entries);
        x.work(500);
        Check.due(5, x::entries);

        Check.promise(23, "of a file, a folder, and what has no entry");
        x.write(2, 1);
        Check.due(1, () -> x.edition(2));
        x.work(500);
        Check.due(2, () -> x.edition(2));
        Check.due(0, () -> x.edition(4));
        Check.due(NONE, () -> x.edition(0));
        Check.due(NONE, () -> x.edition(1));
        x.remove(2);
        Check.due(2, () -> x.edition(2));
        x.work(500);
        Check.due(NONE, () -> x.edition(2));

        Check.promise(23, "wrong inputs");
        Check.due(INDEX, () -> x.edition(-1));
        Check.due(INDEX, () -> x.edition(7));
        Check.due(INDEX, () -> x.edition(60));
        Check.due(INDEX, () -> x.edition(Integer.MAX_VALUE));
    }

    private static void stale() {
        Check.promise(24, "files below roots without an entry, or with another edition, parent, name");
        SearchKeeper x = known();
        Check.due(0, x::stale);
        x.make(1, 'k', false);
        Check.due(1, x::stale);
        x.make(1, 'b', true);
        Check.due(1, x::stale);
        x.write(2, 1);
        Check.due(2, x::stale);
        x.move(3, 1, 'x');
        Check.due(3, x::stale);
        x.move(5, 7, 'h');
        Check.due(4, x::stale);
        x.move(4, 1, 'c');
        Check.due(4, x::stale);
        x.make(0, 'k', false);
        Check.due(4, x::stale);
        x.work(500);
        Check.due(0, x::stale);

        Check.promise(24, "entries for what is gone or below no root, folders too");
        x.move(7, 0, 'b');
        Check.due(2, x::stale);
        x.remove(7);
        Check.due(2, x::stale);
        x.remove(6);
        Check.due(3, x::stale);
        x.watch(1);
        Check.due(6, x::stale);
        x.work(500);
        Check.due(0, x::stale);
        Check.due(0, x::entries);
    }
}
