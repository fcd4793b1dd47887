/** Promises 25 and 26: segments, dead places, merges. */
public final class IndexTest {
    private static final int NONE = SearchKeeper.NONE;

    public static void main(String[] args) {
        oneSegmentForAWork();
        deadPlaces();
        segmentsTakenAway();
        merges();
        firstOfSeveral();
        mergesCountDeadPlaces();
        goneAndBack();
        Check.end("IndexTest");
    }

    private static void is(SearchKeeper x, int segments, int dead) {
        Check.due(segments, x::segments);
        Check.due(dead, x::dead);
    }

    private static void oneSegmentForAWork() {
        Check.promise(25, "one segment for a work, if files were read in it");
        SearchKeeper x = Given.files(4);
        is(x, 0, 0);
        Check.due(1, () -> x.work(1));
        is(x, 0, 0);
        Check.due(2, () -> x.work(2));
        is(x, 1, 0);
        Check.due(1, () -> x.work(1));
        is(x, 2, 0);
        Check.due(1, () -> x.work(500));
        is(x, 3, 0);
        Check.due(0, () -> x.work(500));
        is(x, 3, 0);

        Check.promise(25, "folders have no place");
        SearchKeeper y = Given.files(0);
        y.make(1, 'a', true);
        y.work(500);
        Check.due(1, y::entries);
        is(y, 0, 0);
        x.move(2, 1, 'z');
        x.work(500);
        is(x, 3, 0);
    }

    private static void deadPlaces() {
        Check.promise(26, "an entry that got an edition, or went, leaves a dead place");
        SearchKeeper x = Given.files(5);
        x.work(500);
        is(x, 1, 0);
        Given.reread(x, 2, 3);
        is(x, 2, 2);
        x.remove(4);
        is(x, 2, 2);
        x.work(500);
        is(x, 2, 3);
        x.remove(2);
        x.work(500);
        is(x, 2, 4);
        x.write(5, 1);
        x.work(1);
        is(x, 2, 4);
        x.work(1);
        is(x, 2, 4);
        x.work(2);
        is(x, 3, 5);
    }

    private static void segmentsTakenAway() {
        Check.promise(25, "a segment without places that are not dead is taken away");
        SearchKeeper x = Given.files(2);
        x.work(500);
        is(x, 1, 0);
        Given.reread(x, 2, 3);
        is(x, 1, 0);
        Given.reread(x, 2);
        is(x, 2, 1);
        Given.reread(x, 2);
        is(x, 2, 1);
        Given.reread(x, 3);
        is(x, 2, 0);
        x.remove(2);
        x.work(500);
        is(x, 1, 0);
        x.remove(3);
        x.work(500);
        is(x, 0, 0);
        x.make(1, 'k', false);
        x.work(500);
        is(x, 1, 0);
    }

    private static void merges() {
        Check.promise(25, "more than three: the neighbours with the fewest places become one");
        SearchKeeper x = Given.files(9);
        x.work(500);
        Given.reread(x, 2, 3, 4);
        Given.reread(x, 5);
        is(x, 3, 4);
        Given.reread(x, 6);
        // 9 places with 5 dead, 3, 1 and 1: the last two become one.
        is(x, 3, 5);
        Given.reread(x, 2, 3);
        // 9/5, 3/2, 2/0, 2/0: again the last two.
        is(x, 3, 7);
        Given.reread(x, 7, 8, 9, 10);
        // 9/9 goes before anything is merged: 3/2, 4/0, 4/0 are left.
        is(x, 3, 2);
        Given.reread(x, 4);
        // 3/3 goes.
        is(x, 3, 0);
        Given.reread(x, 5);
        // 4/1, 4/0, 1/0, 1/0: the last two, of 4 and of 5, become one.
        is(x, 3, 1);
        x.remove(5);
        x.work(500);
        is(x, 3, 2);
        x.remove(4);
        x.work(500);
        is(x, 2, 1);
    }

    private static void firstOfSeveral() {
        Check.promise(25, "of several the first ones, and only their dead places go");
        SearchKeeper x = Given.files(0);
        for (int file = 2; file <= 9; file += 2) {
            x.make(1, (char) ('a' + file), false);
            x.make(1, (char) ('b' + file), false);
            if (file == 8) {
                break;
            }
            x.work(500);
        }
        is(x, 3, 0);
        // 2, 2, 2: now one is dead in the first one and one in the last one.
        x.remove(2);
        x.remove(6);
        x.work(500);
        // 2/1, 2/0, 2/1 and the new one of 8 and 9: 2/0. The first two become one: 3/0, 2/1, 2/0.
        is(x, 3, 1);
        Given.reread(x, 3);
        // 3/1, 2/1, 2/0, 1/0: the last two become one.
        is(x, 3, 2);
    }

    private static void mergesCountDeadPlaces() {
        Check.promise(25, "dead places count when the fewest are sought");
        SearchKeeper x = Given.files(6);
        x.work(500);
        x.make(1, 'k', false);
        x.work(500);
        x.make(1, 'l', false);
        x.make(1, 'm', false);
        x.make(1, 'n', false);
        x.make(1, 'o', false);
        x.work(500);
        is(x, 3, 0);
        x.remove(2);
        x.remove(3);
        x.remove(4);
        x.remove(5);
        x.remove(6);
        x.work(500);
        is(x, 3, 5);
        x.make(1, 'p', false);
        x.work(500);
        // 6/5, 1/0, 4/0, 1/0: the sums are 7, 5, 5, so the second and third ones become one.
        is(x, 3, 5);
        Given.reread(x, 8);
        // 6/5, 5/1, 1/0, 1/0: the last two become one.
        is(x, 3, 6);
        Given.reread(x, 7);
        // 6/6 goes: 5/1, 2/0, 1/0.
        is(x, 3, 1);
    }

    private static void goneAndBack() {
        Check.promise(26, "an entry that goes and comes back in one work");
        SearchKeeper x = Given.files(3);
        x.work(500);
        is(x, 1, 0);
        x.move(2, 0, 'q');
        x.work(1);
        x.work(1);
        is(x, 1, 1);
        x.move(2, 1, 'q');
        x.work(500);
        is(x, 2, 1);

        Check.promise(26, "an entry that is read and goes in one work makes no new place");
        SearchKeeper y = new SearchKeeper();
        y.make(0, 'r', true);
        y.make(1, 'q', true);
        y.make(2, 'p', true);
        y.make(3, 'f', false);
        y.make(1, 'g', false);
        y.watch(1);
        y.work(500);
        is(y, 1, 0);
        y.move(3, 1, 'p');
        y.lose(1, 1);
        y.empty(4);
        y.remove(2);
        // The keeper still knows 3 in 2, so 4, just read, goes with 2.
        Check.due(4, () -> y.work(500));
        Check.due(1, y::entries);
        Check.due(NONE, () -> y.edition(4));
        is(y, 1, 1);
        y.crawl(1);
        Check.due(4, () -> y.work(500));
        Check.due(2, () -> y.edition(4));
        is(y, 2, 1);
    }
}
