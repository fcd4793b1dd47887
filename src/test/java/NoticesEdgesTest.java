/** Promises 11 to 14 at the edges, sentence by sentence of 'Notices' in the document. */
public final class NoticesEdgesTest {
    private static final long INDEX = Check.INDEX, ARGUMENT = Check.ARGUMENT, STATE = Check.STATE;
    private static final int NONE = SearchKeeper.NONE;

    public static void main(String[] args) {
        threeAreWatched();
        threeWithGoneOnes();
        eachOneGone();
        watchedAgain();
        noneBelowAnother();
        noneBelowAnotherByMoves();
        theTopAsRoot();
        rootAsLongAsNotGone();
        atMostEight();
        inOrder();
        whatComesToAFullQueue();
        floodedAllThatCome();
        eachKindFloods();
        queuesAreAlone();
        cameIsTold();
        writtenIsTold();
        goneIsTold();
        movesWithin();
        movesOutAndIn();
        movesFromRootToRoot();
        movesOfRootsAndOfWhatIsAboveThem();
        movesAndFullQueues();
        whatLiesInAFolder();
        locksAndSets();
        twiceAtTheEdges();
        twiceTheLast();
        loseAtTheEdges();
        loseTheLast();
        loseOfAFlood();
        Check.end("NoticesEdgesTest");
    }

    private static void threeAreWatched() {
        Check.promise(11, "at most 3 folders are watched");
        SearchKeeper x = Given.four();
        Check.due(1, () -> x.watch(1));
        Check.due(2, () -> x.watch(2));
        Check.due(3, () -> x.watch(3));
        Check.due(STATE, () -> x.watch(4));
        Check.due(INDEX, () -> x.notices(4));
        Check.promise(11, "or no more, if it is watched, also when 3 are");
        Check.due(2, () -> x.watch(3));
        Check.due(3, () -> x.watch(4));
        Check.due(STATE, () -> x.watch(3));
        Check.due(2, () -> x.watch(1));
        Check.due(1, () -> x.watch(2));
        Check.due(0, () -> x.watch(4));
        Check.due(1, () -> x.watch(4));
    }

    private static void threeWithGoneOnes() {
        Check.promise(11, "what is gone is not watched");
        SearchKeeper x = Given.four();
        x.watch(5);
        x.watch(2);
        x.watch(3);
        x.remove(1);
        Check.due(3, () -> x.watch(4));
        Check.due(7, () -> x.make(0, 'r', true));
        Check.due(STATE, () -> x.watch(7));
        x.remove(2);
        Check.due(3, () -> x.watch(7));
        Check.due(2, () -> x.watch(3));
    }

    private static void eachOneGone() {
        Check.promise(11, "what is gone is not watched: the first, the second, the third one");
        for (int gone = 1; gone < 4; gone++) {
            SearchKeeper x = Given.four();
            x.watch(1);
            x.watch(2);
            x.watch(3);
            x.remove(gone);
            for (int root = 1; root < 4; root++) {
                int each = root;
                Check.due(root == gone ? INDEX : 0, () -> x.notices(each));
            }
            Check.due(3, () -> x.watch(4));
        }
        Check.promise(11, "all three at once");
        SearchKeeper x = Given.four();
        x.watch(1);
        x.watch(2);
        x.watch(3);
        x.move(1, 4, 'r');
        x.move(2, 4, 's');
        x.move(3, 4, 't');
        Check.due(6, () -> x.remove(4));
        Check.due(true, x::isQuiet);
        Check.due(7, () -> x.make(0, 'r', true));
        Check.due(1, () -> x.watch(7));
        Check.due(INDEX, () -> x.notices(3));
        Check.promise(11, "two of three at once: the other one stays");
        for (int stays = 1; stays < 4; stays++) {
            SearchKeeper y = Given.four();
            y.watch(1);
            y.watch(2);
            y.watch(3);
            for (int root = 1; root < 4; root++) {
                if (root != stays) {
                    y.move(root, 4, (char) ('a' + root));
                }
            }
            int each = stays;
            y.remove(4);
            Check.due(0, () -> y.notices(each));
            Check.due(1, () -> y.crawl(each));
            Check.due(0, () -> y.watch(each));
        }
    }

    private static void watchedAgain() {
        Check.promise(11, "its notices go: none of them is there when it is watched again");
        SearchKeeper x = Given.four();
        x.watch(1);
        Given.worked(x);
        Given.empty(x, 6, 3);
        Check.due(0, () -> x.watch(1));
        Check.due(1, () -> x.watch(1));
        Check.due(0, () -> x.notices(1));
        Check.due(STATE, () -> x.twice(1));
        Check.promise(11, "nor is it flooded, nor is another one that is watched then");
        Given.flood(x, 6);
        Check.due(0, () -> x.watch(1));
        Check.due(1, () -> x.watch(2));
        Check.due(0, () -> x.notices(2));
        Check.due(2, () -> x.watch(1));
        Check.due(0, () -> x.notices(1));
        Given.flood(x, 6);
        x.remove(1);
        Check.due(2, () -> x.watch(3));
        Check.due(0, () -> x.notices(3));
        Check.promise(11, "it is the last one in order then");
        SearchKeeper y = Given.four();
        y.make(2, 'f', false);
        y.watch(1);
        y.watch(2);
        y.watch(1);
        y.watch(1);
        Given.worked(y);
        y.empty(6);
        y.empty(7);
        Check.due(1, () -> y.work(1));
        Check.due(0, () -> y.notices(2));
        Check.due(1, () -> y.notices(1));
    }

    private static void noneBelowAnother() {
        Check.promise(11, "one that is watched is below it, or it below one");
        SearchKeeper x = Given.four();
        x.make(5, 'b', true);
        x.watch(5);
        Check.due(STATE, () -> x.watch(0));
        Check.due(STATE, () -> x.watch(1));
        Check.due(STATE, () -> x.watch(7));
        Check.due(2, () -> x.watch(2));
        Check.due(8, () -> x.make(1, 'b', true));
        Check.due(3, () -> x.watch(8));
        Check.due(2, () -> x.watch(8));
        Check.due(1, () -> x.watch(5));
        Check.due(2, () -> x.watch(1));
        Check.due(STATE, () -> x.watch(5));
        Check.due(STATE, () -> x.watch(7));
        Check.due(STATE, () -> x.watch(8));
    }

    private static void noneBelowAnotherByMoves() {
        Check.promise(5, "or a root would be below another one then");
        SearchKeeper x = Given.four();
        x.make(2, 'b', true);
        x.make(3, 'c', true);
        x.watch(5);
        x.watch(2);
        Check.due(STATE, () -> x.move(5, 2, 'k'));
        Check.due(STATE, () -> x.move(5, 7, 'k'));
        Check.due(STATE, () -> x.move(1, 2, 'k'));
        Check.due(STATE, () -> x.move(1, 7, 'k'));
        Check.due(STATE, () -> x.move(2, 5, 'k'));
        Check.due(2, () -> x.move(7, 5, 'k'));
        Check.due(STATE, () -> x.move(2, 7, 'k'));
        Check.due(1, () -> x.move(5, 8, 'k'));
        Check.due(0, () -> x.move(2, 8, 'l'));
        Check.due(0, () -> x.move(3, 1, 'k'));
        Check.due(STATE, () -> x.move(1, 5, 'm'));
        Check.due(8, () -> x.move(5, 8, 'm'));
        Check.due(3, () -> x.watch(4));
    }

    private static void theTopAsRoot() {
        Check.promise(11, "the folder 0 may be watched: all else is below it");
        SearchKeeper x = Given.four();
        Check.due(1, () -> x.watch(0));
        Check.due(STATE, () -> x.watch(1));
        Check.due(7, () -> x.make(0, 'x', false));
        Check.due(1, () -> x.notices(0));
        Check.due(5, () -> x.move(6, 1, 'f'));
        Check.due(2, () -> x.notices(0));
        Check.due(3, () -> x.remove(1));
        Check.due(3, () -> x.notices(0));
        Check.due(0, () -> x.watch(0));
        Check.due(1, () -> x.watch(2));
    }

    private static void rootAsLongAsNotGone() {
        Check.promise(12, "a watched folder is a root as long as it is not gone");
        SearchKeeper x = Given.four();
        x.watch(5);
        x.watch(2);
        Check.due(0, () -> x.notices(5));
        Check.due(3, () -> x.remove(1));
        Check.due(INDEX, () -> x.notices(5));
        Check.due(INDEX, () -> x.crawl(5));
        Check.due(INDEX, () -> x.twice(5));
        Check.due(INDEX, () -> x.lose(5, 1));
        Check.due(1, () -> x.crawl(2));
        Check.promise(12, "a folder that is not watched, a file, and what was never made are no roots");
        for (int node : new int[] {-1, 0, 1, 3, 6, 7, 60, Integer.MAX_VALUE, Integer.MIN_VALUE}) {
            Check.due(INDEX, () -> x.notices(node));
            Check.due(INDEX, () -> x.crawl(node));
            Check.due(INDEX, () -> x.twice(node));
            Check.due(INDEX, () -> x.lose(node, 1));
        }
    }

    private static void atMostEight() {
        Check.promise(12, "a queue of at most 8 notices");
        SearchKeeper x = Given.worked(Given.files(8));
        for (int file = 2; file < 10; file++) {
            int each = file;
            Check.due(each - 2, () -> x.notices(1));
            x.empty(file);
        }
        Check.due(8, () -> x.notices(1));
        Check.due(16, () -> x.work(500));
        Check.due(0, x::stale);
        Check.due(0, () -> x.notices(1));
    }

    private static void inOrder() {
        Check.promise(12, "in order: the first one is heard first");
        SearchKeeper x = Given.worked(Given.files(3));
        x.empty(4);
        x.empty(2);
        x.empty(3);
        Check.due(4, () -> x.work(4));
        Check.due(2, () -> x.edition(4));
        Check.due(1, () -> x.edition(2));
        Check.due(1, () -> x.work(1));
        Check.due(2, () -> x.edition(2));
        Check.due(1, () -> x.edition(3));
        Check.promise(12, "taken from the front, there is room at the end again");
        SearchKeeper y = Given.worked(Given.files(9));
        for (int file = 2; file < 10; file++) {
            y.empty(file);
        }
        y.work(1);
        Check.due(7, () -> y.notices(1));
        y.empty(10);
        Check.due(8, () -> y.notices(1));
        Check.due(17, () -> y.work(500));
        Check.due(0, y::stale);
    }

    private static void whatComesToAFullQueue() {
        Check.promise(12, "what comes to a full queue floods the root: all its notices are lost");
        SearchKeeper x = Given.worked(Given.files(1));
        x.empty(2);
        for (int i = 0; i < 7; i++) {
            x.make(1, (char) ('k' + i), false);
        }
        Check.due(8, () -> x.notices(1));
        x.make(1, 'z', false);
        Check.due(NONE, () -> x.notices(1));
        // The flood, and the crawl of the root, which finds all nine.
        Check.due(1, () -> x.work(1));
        Check.due(0, x::acts);
        Check.due(0, () -> x.notices(1));
        Check.due(1, () -> x.work(1));
        Check.due(9, x::acts);
        Check.due(9, () -> x.work(500));
        Check.due(0, x::stale);
    }

    private static void floodedAllThatCome() {
        Check.promise(12, "and as long as it is flooded, all that come");
        SearchKeeper x = Given.worked(Given.files(1));
        Given.flood(x, 2);
        Given.empty(x, 2, 20);
        Check.due(NONE, () -> x.notices(1));
        x.lock(2, true);
        Check.due(1, () -> x.work(1));
        Check.due(0, () -> x.notices(1));
        x.lock(2, false);
        Given.empty(x, 2, 8);
        Check.due(8, () -> x.notices(1));
        x.empty(2);
        Check.due(NONE, () -> x.notices(1));
    }

    private static void eachKindFloods() {
        Check.promise(12, "CAME, WRITTEN and GONE, all to a full queue");
        SearchKeeper came = Given.worked(Given.files(2));
        Given.empty(came, 2, 8);
        came.make(1, 'k', true);
        Check.due(NONE, () -> came.notices(1));
        SearchKeeper written = Given.worked(Given.files(2));
        Given.empty(written, 2, 8);
        written.write(3, 1);
        Check.due(NONE, () -> written.notices(1));
        SearchKeeper gone = Given.worked(Given.files(2));
        Given.empty(gone, 2, 8);
        gone.remove(3);
        Check.due(NONE, () -> gone.notices(1));
        SearchKeeper moved = Given.worked(Given.files(2));
        Given.empty(moved, 2, 8);
        moved.move(3, 1, 'b');
        Check.due(NONE, () -> moved.notices(1));
    }

    private static void queuesAreAlone() {
        Check.promise(12, "each root has a queue of its own");
        SearchKeeper x = Given.four();
        x.make(2, 'f', false);
        x.watch(1);
        x.watch(2);
        x.watch(3);
        Given.worked(x);
        Given.flood(x, 7);
        Given.empty(x, 6, 8);
        Check.due(8, () -> x.notices(1));
        Check.due(NONE, () -> x.notices(2));
        Check.due(0, () -> x.notices(3));
        Check.due(2, () -> x.watch(2));
        Check.due(8, () -> x.notices(1));
        Check.due(0, () -> x.notices(3));
    }

    private static void cameIsTold() {
        Check.promise(12, "a node that is made below a root makes it CAME there");
        SearchKeeper x = Given.four();
        x.watch(1);
        Given.worked(x);
        Check.due(7, () -> x.make(1, 'k', false));
        Check.due(1, () -> x.notices(1));
        Check.due(8, () -> x.make(5, 'k', true));
        Check.due(2, () -> x.notices(1));
        Check.due(9, () -> x.make(8, 'k', false));
        Check.due(3, () -> x.notices(1));
        Check.due(10, () -> x.make(0, 'k', false));
        Check.due(11, () -> x.make(2, 'k', false));
        Check.due(3, () -> x.notices(1));
        // Three notices and three nodes: 9, which lies in 8, has a LOOK already when 8 is looked at.
        Check.due(6, () -> x.work(500));
        Check.due(5, x::entries);
    }

    private static void writtenIsTold() {
        Check.promise(12, "a write below a root WRITTEN");
        SearchKeeper x = Given.four();
        x.make(0, 'f', false);
        x.make(1, 'f', false);
        x.watch(1);
        Given.worked(x);
        x.write(6, 5);
        Check.due(1, () -> x.notices(1));
        x.write(8, SearchKeeper.CLOSE);
        Check.due(2, () -> x.notices(1));
        x.empty(6);
        Check.due(3, () -> x.notices(1));
        x.write(7, 5);
        x.empty(7);
        Check.due(3, () -> x.notices(1));
    }

    private static void goneIsTold() {
        Check.promise(12, "a removal of a node below a root GONE");
        SearchKeeper x = Given.four();
        x.make(1, 'g', false);
        x.watch(1);
        x.watch(2);
        Given.worked(x);
        x.remove(7);
        Check.due(1, () -> x.notices(1));
        Check.due(2, () -> x.remove(5));
        Check.due(2, () -> x.notices(1));
        x.remove(3);
        Check.due(2, () -> x.notices(1));
        Check.due(4, () -> x.work(500));
        Check.due(0, x::entries);
        Check.promise(12, "a root is not below itself: its own removal tells nobody");
        x.remove(1);
        Check.due(0, () -> x.notices(2));
        Check.due(true, x::isQuiet);
    }

    private static void movesWithin() {
        Check.promise(5, "below a root, and stays below it, also to where it lies already: CAME");
        SearchKeeper x = Given.four();
        x.watch(1);
        Given.worked(x);
        Check.due(5, () -> x.move(6, 5, 'f'));
        Check.due(1, () -> x.notices(1));
        Check.due(2, () -> x.work(500));
        Check.due(5, () -> x.move(6, 5, 'g'));
        Check.due(1, () -> x.notices(1));
        Check.due(2, () -> x.work(500));
        Check.due(5, () -> x.move(6, 1, 'g'));
        Check.due(1, () -> x.notices(1));
        Check.due(2, () -> x.work(500));
        Check.due(1, () -> x.move(5, 1, 'a'));
        Check.due(1, () -> x.notices(1));
        Check.due(2, () -> x.work(500));
        Check.due(0, x::stale);
    }

    private static void movesOutAndIn() {
        Check.promise(5, "GONE at the root that it was below, if there is one");
        SearchKeeper x = Given.four();
        x.watch(1);
        Given.worked(x);
        Check.due(5, () -> x.move(6, 0, 'f'));
        Check.due(1, () -> x.notices(1));
        Check.promise(5, "then CAME at that which it is below then");
        Check.due(0, () -> x.move(6, 1, 'f'));
        Check.due(2, () -> x.notices(1));
        // CAME came last, so the LOOK is what stands.
        Check.due(3, () -> x.work(500));
        Check.due(2, x::entries);
        Check.promise(5, "without the CAME a DROP stands, which is a LOOK then");
        x.move(6, 2, 'f');
        x.move(6, 1, 'f');
        Check.due(1, () -> x.lose(1, 1));
        Check.due(3, () -> x.work(500));
        Check.due(2, x::entries);
        Check.promise(5, "below no root before and then: nothing is told");
        x.move(6, 2, 'f');
        x.lose(1, 1);
        x.move(6, 3, 'f');
        x.move(6, 0, 'f');
        x.move(6, 0, 'g');
        Check.due(0, () -> x.notices(1));
        Check.due(true, x::isQuiet);
    }

    private static void movesFromRootToRoot() {
        Check.promise(5, "from the root watched first to another one: GONE there, CAME here");
        SearchKeeper x = Given.four();
        x.watch(1);
        x.watch(2);
        Given.worked(x);
        x.move(6, 2, 'f');
        Check.due(1, () -> x.notices(1));
        Check.due(1, () -> x.notices(2));
        // DROP, then LOOK at its place.
        Check.due(3, () -> x.work(500));
        Check.due(0, x::stale);
        Check.promise(5, "and back: CAME is heard first there, then GONE");
        x.move(6, 5, 'f');
        Check.due(1, () -> x.notices(1));
        Check.due(1, () -> x.notices(2));
        // LOOK, then DROP at its place, which is a LOOK in the end.
        Check.due(4, () -> x.work(500));
        Check.due(0, x::stale);
        Check.due(2, x::entries);
    }

    private static void movesOfRootsAndOfWhatIsAboveThem() {
        Check.promise(5, "a root is below no root: its move tells nothing, nor that of what it is below");
        SearchKeeper x = Given.four();
        x.watch(5);
        x.watch(2);
        Given.worked(x);
        Check.due(1, () -> x.move(5, 3, 'a'));
        Check.due(3, () -> x.move(5, 1, 'b'));
        Check.due(0, () -> x.move(1, 3, 'r'));
        Check.due(3, () -> x.move(1, 3, 'q'));
        Check.due(0, () -> x.notices(5));
        Check.due(0, () -> x.notices(2));
        Check.due(true, x::isQuiet);
        Check.due(0, x::stale);
    }

    private static void movesAndFullQueues() {
        Check.promise(5, "GONE to a full queue floods; CAME comes to the other root");
        SearchKeeper x = Given.four();
        x.make(2, 'k', false);
        x.watch(1);
        x.watch(2);
        Given.worked(x);
        Given.empty(x, 6, 8);
        x.move(6, 2, 'f');
        Check.due(NONE, () -> x.notices(1));
        Check.due(1, () -> x.notices(2));
        Check.promise(5, "CAME to a full queue floods; GONE is lost where it is flooded");
        Given.empty(x, 7, 7);
        Check.due(8, () -> x.notices(2));
        x.move(5, 2, 'a');
        Check.due(NONE, () -> x.notices(1));
        Check.due(NONE, () -> x.notices(2));
        Given.worked(x);
        Check.due(0, x::stale);
        Check.due(3, x::entries);
    }

    private static void whatLiesInAFolder() {
        Check.promise(5, "what lies in a folder makes no notices of its own");
        SearchKeeper x = Given.four();
        x.make(5, 'b', true);
        x.make(7, 'g', false);
        x.watch(1);
        x.watch(2);
        Given.worked(x);
        x.move(5, 1, 'z');
        Check.due(1, () -> x.notices(1));
        x.move(5, 2, 'a');
        Check.due(2, () -> x.notices(1));
        Check.due(1, () -> x.notices(2));
        Check.due(4, () -> x.remove(5));
        Check.due(2, () -> x.notices(2));
    }

    private static void locksAndSets() {
        Check.promise(7, "locks make no notices");
        SearchKeeper x = Given.worked(Given.files(1));
        x.lock(2, true);
        x.lock(2, false);
        Check.due(0, () -> x.notices(1));
        Check.promise(8, "sets of people make none");
        x.people(2, 1);
        x.people(1, 1);
        x.people(0, 1);
        Check.due(0, () -> x.notices(1));
        Check.due(true, x::isQuiet);
        Check.promise(2, "refused calls make none");
        Check.due(STATE, () -> x.make(1, 'a', true));
        Check.due(ARGUMENT, () -> x.write(2, 100));
        Check.due(STATE, () -> x.move(1, 1, 'b'));
        Check.due(0, () -> x.notices(1));
    }

    private static void twiceAtTheEdges() {
        Check.promise(13, "if it has none");
        SearchKeeper x = Given.worked(Given.files(1));
        Check.due(STATE, () -> x.twice(1));
        Check.promise(13, "as if it came once more: 2 to 8, then a flood");
        x.empty(2);
        for (int many = 2; many <= 8; many++) {
            int each = many;
            Check.due(each, () -> x.twice(1));
            Check.due(each, () -> x.notices(1));
        }
        Check.due(NONE, () -> x.twice(1));
        Check.due(NONE, () -> x.notices(1));
        Check.promise(13, "if it has none: a flooded one has none");
        Check.due(STATE, () -> x.twice(1));
        Check.due(NONE, () -> x.notices(1));
        // The flood, the crawl, and the file.
        Check.due(3, () -> x.work(500));
        Check.due(STATE, () -> x.twice(1));
        x.empty(2);
        Check.due(0, () -> x.lose(1, 1));
        Check.due(STATE, () -> x.twice(1));
    }

    private static void twiceTheLast() {
        Check.promise(13, "doubles the last notice, not another one");
        SearchKeeper x = Given.worked(Given.files(1));
        x.move(2, 0, 'a');
        x.move(2, 1, 'a');
        Check.due(3, () -> x.twice(1));
        // GONE, CAME, CAME: a LOOK stands. With GONE behind them it would be one step more.
        Check.due(4, () -> x.work(500));
        x.move(2, 1, 'b');
        x.move(2, 0, 'b');
        Check.due(3, () -> x.twice(1));
        x.move(2, 1, 'b');
        Check.due(3, () -> x.lose(1, 1));
        // CAME, GONE, GONE: a DROP stands, which is a LOOK then.
        Check.due(5, () -> x.work(500));
    }

    private static void loseAtTheEdges() {
        Check.promise(14, "1 to 8");
        SearchKeeper x = Given.worked(Given.files(1));
        Check.due(0, () -> x.lose(1, 1));
        Check.due(0, () -> x.lose(1, 8));
        Given.empty(x, 2, 8);
        Check.due(ARGUMENT, () -> x.lose(1, 0));
        Check.due(ARGUMENT, () -> x.lose(1, 9));
        Check.due(ARGUMENT, () -> x.lose(1, -1));
        Check.due(ARGUMENT, () -> x.lose(1, Integer.MAX_VALUE));
        Check.due(ARGUMENT, () -> x.lose(1, Integer.MIN_VALUE));
        Check.due(8, () -> x.notices(1));
        Check.due(7, () -> x.lose(1, 1));
        Check.due(0, () -> x.lose(1, 7));
        Given.empty(x, 2, 8);
        Check.due(0, () -> x.lose(1, 8));
        Check.promise(14, "at most all");
        Given.empty(x, 2, 3);
        Check.due(1, () -> x.lose(1, 2));
        Check.due(0, () -> x.lose(1, 2));
        Given.empty(x, 2, 2);
        Check.due(0, () -> x.lose(1, 8));
        Check.promise(14, "without a trace");
        Check.due(0, () -> x.notices(1));
        Check.due(true, x::isQuiet);
        Check.due(0, () -> x.work(500));
        Check.due(1, x::stale);
    }

    private static void loseTheLast() {
        Check.promise(14, "the last notices");
        SearchKeeper x = Given.worked(Given.files(3));
        x.empty(3);
        x.empty(2);
        x.empty(4);
        Check.due(1, () -> x.lose(1, 2));
        Check.due(2, () -> x.work(500));
        Check.due(2, () -> x.edition(3));
        Check.due(1, () -> x.edition(2));
        Check.due(1, () -> x.edition(4));
        Check.due(2, x::stale);
    }

    private static void loseOfAFlood() {
        Check.promise(14, "0 also if it is flooded");
        SearchKeeper x = Given.worked(Given.files(1));
        Given.flood(x, 2);
        Check.due(0, () -> x.lose(1, 1));
        Check.due(0, () -> x.lose(1, 8));
        Check.due(ARGUMENT, () -> x.lose(1, 9));
        Check.due(ARGUMENT, () -> x.lose(1, 0));
        Check.due(NONE, () -> x.notices(1));
        Check.due(false, x::isQuiet);
        Check.due(3, () -> x.work(500));
    }
}
