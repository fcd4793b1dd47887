/** Promises 11 to 14: what is watched, the notices that come to roots, doubled and lost ones. */
public final class NoticesTest {
    private static final long INDEX = Check.INDEX, ARGUMENT = Check.ARGUMENT, STATE = Check.STATE;
    private static final int NONE = SearchKeeper.NONE;

    public static void main(String[] args) {
        watch();
        watchNoMore();
        goneRoots();
        whatNoticesCome();
        whatMovesTell();
        notices();
        twice();
        lose();
        Check.end("NoticesTest");
    }

    private static void watch() {
        Check.promise(11, "three at most");
        SearchKeeper x = Given.four();
        Check.due(1, () -> x.watch(1));
        Check.due(false, x::isQuiet);
        Check.due(2, () -> x.watch(2));
        Check.due(3, () -> x.watch(3));
        Check.due(STATE, () -> x.watch(4));
        Check.due(2, () -> x.watch(2));
        Check.due(3, () -> x.watch(4));
        Check.due(INDEX, () -> x.notices(2));
        Check.due(0, () -> x.notices(4));

        Check.promise(11, "none below another one");
        SearchKeeper y = Given.four();
        Check.due(1, () -> y.watch(5));
        Check.due(STATE, () -> y.watch(1));
        Check.due(STATE, () -> y.watch(0));
        Check.due(0, () -> y.watch(5));
        Check.due(1, () -> y.watch(0));
        Check.due(STATE, () -> y.watch(1));
        Check.due(STATE, () -> y.watch(5));

        Check.promise(11, "wrong inputs");
        Check.due(INDEX, () -> y.watch(6));
        Check.due(INDEX, () -> y.watch(7));
        Check.due(INDEX, () -> y.watch(-1));
        Check.due(INDEX, () -> y.watch(Integer.MIN_VALUE));
        y.remove(4);
        Check.due(INDEX, () -> y.watch(4));
    }

    private static void watchNoMore() {
        Check.promise(11, "what is watched is crawled; watched no more, its notices and crawl go");
        SearchKeeper x = Given.four();
        x.watch(1);
        Check.due(4, () -> x.work(500));
        Check.due(2, x::entries);
        Check.due(true, x::isQuiet);
        Check.due(2, () -> x.write(6, 3));
        Check.due(1, () -> x.crawl(1));
        Check.due(1, () -> x.notices(1));
        Check.due(0, () -> x.watch(1));
        Check.due(INDEX, () -> x.notices(1));
        Check.due(2, x::acts);
        Check.due(2, x::stale);
        Check.due(1, () -> x.work(1));
        Check.due(0, x::entries);
        Check.due(1, x::acts);
        Check.due(1, () -> x.work(5));
        Check.due(true, x::isQuiet);

        Check.promise(11, "watched again, it is the last one, without its old notices or flood");
        SearchKeeper y = Given.four();
        y.watch(1);
        y.watch(2);
        y.work(500);
        for (int i = 0; i < 9; i++) {
            y.empty(6);
        }
        Check.due(NONE, () -> y.notices(1));
        Check.due(1, () -> y.watch(1));
        Check.due(2, () -> y.watch(1));
        Check.due(0, () -> y.notices(1));
        Check.due(7, () -> y.make(2, 'b', false));
        Check.due(0, () -> y.empty(6));
        Check.due(1, () -> y.work(1));
        Check.due(0, () -> y.notices(2));
        Check.due(1, () -> y.notices(1));
    }

    private static void goneRoots() {
        Check.promise(6, "a root that is gone is watched no more");
        SearchKeeper x = Given.four();
        x.watch(5);
        x.watch(2);
        x.watch(3);
        x.work(500);
        Check.due(1, x::entries);
        Check.due(7, () -> x.make(5, 'b', false));
        Check.due(1, () -> x.crawl(5));
        Check.due(4, () -> x.remove(1));
        Check.due(INDEX, () -> x.notices(5));
        Check.due(1, x::acts);
        Check.due(1, x::stale);
        Check.due(3, () -> x.watch(4));
        Check.due(2, () -> x.work(500));
        Check.due(0, x::entries);
        Check.due(true, x::isQuiet);

        Check.promise(6, "what is watched no more may go without a trace");
        Check.due(8, () -> x.make(3, 'b', false));
        x.work(500);
        Check.due(1, x::entries);
        x.watch(2);
        x.work(500);
        Check.due(true, x::isQuiet);
        Check.due(1, () -> x.remove(2));
        Check.due(0, x::acts);

        Check.promise(6, "two roots gone at once");
        SearchKeeper y = Given.four();
        y.make(1, 'b', true);
        y.watch(5);
        y.watch(2);
        y.watch(7);
        y.work(500);
        Check.due(8, () -> y.make(2, 'h', false));
        Check.due(4, () -> y.remove(1));
        Check.due(INDEX, () -> y.notices(5));
        Check.due(INDEX, () -> y.notices(7));
        Check.due(1, () -> y.notices(2));
        Check.due(1, y::acts);
        Check.due(2, () -> y.watch(3));
        Check.due(3, () -> y.watch(4));
    }

    private static void whatNoticesCome() {
        Check.promise(12, "makes, writes and removals below roots tell it");
        SearchKeeper x = Given.four();
        x.watch(1);
        x.watch(2);
        Check.due(7, () -> x.make(1, 'b', true));
        Check.due(1, () -> x.notices(1));
        Check.due(8, () -> x.make(7, 'c', false));
        Check.due(2, () -> x.notices(1));
        Check.due(2, () -> x.write(8, 1));
        Check.due(3, () -> x.notices(1));
        Check.due(1, () -> x.empty(8));
        Check.due(4, () -> x.notices(1));
        Check.due(2, () -> x.remove(7));
        Check.due(5, () -> x.notices(1));
        Check.due(0, () -> x.notices(2));

        Check.promise(12, "what is not below a root does not");
        Check.due(9, () -> x.make(0, 'x', false));
        Check.due(2, () -> x.write(9, 1));
        Check.due(1, () -> x.remove(9));
        Check.due(10, () -> x.make(3, 'x', false));
        Check.due(STATE, () -> x.make(1, 'a', false));
        Check.due(5, () -> x.notices(1));
        Check.due(0, () -> x.notices(2));
    }

    private static void whatMovesTell() {
        Check.promise(5, "within a root it came, also to where it lies already");
        SearchKeeper x = Given.four();
        x.watch(1);
        x.watch(2);
        x.work(500);
        Check.due(5, () -> x.move(6, 1, 'f'));
        Check.due(1, () -> x.notices(1));
        Check.due(1, () -> x.move(6, 1, 'f'));
        Check.due(2, () -> x.notices(1));
        Check.due(3, () -> x.work(500));
        Check.due(0, x::stale);

        Check.promise(5, "from root to root it is gone, and came");
        Check.due(1, () -> x.move(5, 2, 'a'));
        Check.due(1, () -> x.notices(1));
        Check.due(1, () -> x.notices(2));
        Check.due(1, () -> x.work(1));
        Check.due(1, () -> x.work(1));
        Check.due(1, x::acts);
        Check.due(1, () -> x.work(500));
        Check.due(0, x::stale);
        Check.due(2, x::entries);

        Check.promise(5, "out of a root it is gone, into one it came");
        Check.due(2, () -> x.move(5, 3, 'a'));
        Check.due(0, () -> x.notices(1));
        Check.due(1, () -> x.notices(2));
        Check.due(3, () -> x.move(5, 0, 'a'));
        Check.due(1, () -> x.notices(2));
        Check.due(0, () -> x.move(5, 1, 'a'));
        Check.due(1, () -> x.notices(1));
        Check.due(1, () -> x.notices(2));

        Check.promise(5, "a root that is moved tells nothing");
        Check.due(0, () -> x.move(1, 3, 'r'));
        Check.due(3, () -> x.move(1, 3, 'q'));
        Check.due(1, () -> x.notices(1));
        Check.due(4, () -> x.work(500));
        Check.due(0, x::stale);
        Check.due(1, () -> x.crawl(1));
        Check.due(2, () -> x.work(500));
    }

    private static void notices() {
        Check.promise(12, "eight at most, then a flood");
        SearchKeeper x = Given.four();
        x.watch(1);
        x.work(500);
        for (int i = 1; i <= 8; i++) {
            x.write(6, i);
            int each = i;
            Check.due(each, () -> x.notices(1));
        }
        x.write(6, 9);
        Check.due(NONE, () -> x.notices(1));
        x.write(6, 9);
        Check.due(NONE, () -> x.notices(1));
        Check.due(1, () -> x.work(1));
        Check.due(0, () -> x.notices(1));
        x.write(6, 9);
        Check.due(1, () -> x.notices(1));

        Check.promise(12, "wrong inputs");
        Check.due(INDEX, () -> x.notices(0));
        Check.due(INDEX, () -> x.notices(5));
        Check.due(INDEX, () -> x.notices(6));
        Check.due(INDEX, () -> x.notices(-1));
        Check.due(INDEX, () -> x.notices(60));
        Check.due(INDEX, () -> x.notices(Integer.MAX_VALUE));
    }

    private static void twice() {
        Check.promise(13, "the last notice once more");
        SearchKeeper x = Given.four();
        x.watch(1);
        x.work(500);
        Check.due(STATE, () -> x.twice(1));
        x.write(6, 1);
        x.make(1, 'b', false);
        Check.due(3, () -> x.twice(1));
        Check.due(4, () -> x.twice(1));
        Check.due(1, () -> x.lose(1, 3));
        Check.due(2, () -> x.twice(1));
        Check.due(2, () -> x.work(2));
        Check.due(1, x::acts);
        Check.due(2, () -> x.work(500));
        Check.due(1, x::stale);

        Check.promise(13, "what comes to a full queue floods; a flooded root has none");
        x.empty(6);
        for (int i = 2; i <= 8; i++) {
            int each = i;
            Check.due(each, () -> x.twice(1));
        }
        Check.due(NONE, () -> x.twice(1));
        Check.due(NONE, () -> x.notices(1));
        Check.due(STATE, () -> x.twice(1));

        Check.promise(13, "wrong inputs");
        Check.due(INDEX, () -> x.twice(0));
        Check.due(INDEX, () -> x.twice(5));
        Check.due(INDEX, () -> x.twice(-1));
        Check.due(INDEX, () -> x.twice(61));
    }

    private static void lose() {
        Check.promise(14, "the last ones, at most all");
        SearchKeeper x = Given.four();
        x.watch(1);
        x.work(500);
        x.make(1, 'b', false);
        x.make(1, 'c', false);
        x.make(1, 'd', false);
        Check.due(1, () -> x.lose(1, 2));
        Check.due(2, () -> x.work(500));
        Check.due(1, () -> x.edition(7));
        Check.due(NONE, () -> x.edition(8));
        Check.due(2, x::stale);
        x.empty(8);
        Check.due(0, () -> x.lose(1, 8));
        Check.due(0, () -> x.lose(1, 1));
        Check.due(0, () -> x.work(500));
        Check.due(true, x::isQuiet);

        Check.promise(14, "a flood stays");
        for (int i = 0; i < 9; i++) {
            x.empty(6);
        }
        Check.due(0, () -> x.lose(1, 3));
        Check.due(NONE, () -> x.notices(1));
        for (int i = 0; i < 8; i++) {
            x.empty(6);
        }
        Check.due(0, () -> x.lose(1, 3));

        Check.promise(14, "wrong inputs");
        Check.due(ARGUMENT, () -> x.lose(1, 0));
        Check.due(ARGUMENT, () -> x.lose(1, 9));
        Check.due(ARGUMENT, () -> x.lose(1, -1));
        Check.due(ARGUMENT, () -> x.lose(1, Integer.MIN_VALUE));
        Check.due(INDEX, () -> x.lose(5, 0));
        Check.due(INDEX, () -> x.lose(2, 1));
        Check.due(INDEX, () -> x.lose(-1, 1));
    }
}
