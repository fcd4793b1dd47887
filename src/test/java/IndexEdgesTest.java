/** Promises 25 and 26 at the edges, sentence by sentence of 'The index' in the document. */
public final class IndexEdgesTest {
    private static final int NONE = SearchKeeper.NONE;

    public static void main(String[] args) {
        worksWithoutASegment();
        oneForAWork();
        perhapsWithTheSameWords();
        deadInOlderSegments();
        entriesThatWent();
        readAndGoneInOneWork();
        goneAndReadInOneWork();
        onlyDeadOnes();
        threeStay();
        fourMergeTheFirst();
        fourMergeTheSecond();
        fourMergeTheThird();
        firstOfSeveral();
        deadOnesIncluded();
        withoutTheirDeadPlaces();
        takenAwayBeforeMerging();
        atThePlaceOfTheFirst();
        behindTheOthers();
        Check.end("IndexEdgesTest");
    }

    private static void is(SearchKeeper x, int segments, int dead) {
        Check.due(segments, x::segments);
        Check.due(dead, x::dead);
    }

    /**
     * A root 1 with a segment for each of these sizes, one behind the other; the first file is 2,
     * and they go on by rising numbers.
     */
    private static SearchKeeper segments(int... sizes) {
        SearchKeeper x = Given.worked(Given.files(0));
        for (int size : sizes) {
            addSegment(x, size);
        }
        return x;
    }

    private static void addSegment(SearchKeeper x, int size) {
        int name = 0;
        for (int made = 0; made < size; name++) {
            char letter = (char) ('a' + name);
            made += Check.answerOf(() -> x.make(1, letter, false)) < Check.INDEX ? 1 : 0;
        }
        x.work(500);
    }

    /** The dead places that are left when the entries of these files, and no others, go. */
    private static void goes(SearchKeeper x, int segments, int dead, int... files) {
        Given.remove(x, files);
        Given.worked(x);
        is(x, segments, dead);
    }

    private static void worksWithoutASegment() {
        Check.promise(25, "0 at first; entries of files that got an edition in it make one, if any");
        SearchKeeper x = Given.folders(2);
        is(x, 0, 0);
        Given.worked(x);
        is(x, 0, 0);
        Check.promise(25, "a notice that is heard, a look without its steps, a file that is locked");
        SearchKeeper y = Given.worked(Given.files(0));
        y.make(1, 'a', false);
        y.write(2, 1);
        y.work(2);
        is(y, 0, 0);
        y.work(1);
        is(y, 0, 0);
        y.lock(2, true);
        y.work(500);
        is(y, 0, 0);
        y.lock(2, false);
        y.work(500);
        is(y, 1, 0);
        Check.promise(25, "a look that reads no edition");
        y.move(2, 1, 'k');
        y.work(500);
        is(y, 1, 0);
        y.crawl(1);
        y.work(500);
        is(y, 1, 0);
        y.work(500);
        is(y, 1, 0);
    }

    private static void oneForAWork() {
        Check.promise(25, "one segment for a work, whatever it read");
        is(segments(1), 1, 0);
        is(segments(8), 1, 0);
        is(segments(2, 3), 2, 0);
        Check.promise(25, "each work that ends makes one of what it read");
        SearchKeeper x = Given.files(3);
        x.work(2);
        is(x, 1, 0);
        x.work(1);
        is(x, 2, 0);
        x.work(1);
        is(x, 3, 0);
        Check.promise(25, "a file that is removed goes from it when its entry goes");
        x.remove(3);
        is(x, 3, 0);
        Given.worked(x);
        is(x, 2, 0);
    }

    private static void perhapsWithTheSameWords() {
        Check.promise(25, "that got an edition in it, perhaps with the same words");
        SearchKeeper x = segments(2);
        Given.reread(x, 2);
        is(x, 2, 1);
        x.write(2, SearchKeeper.CLOSE);
        Given.worked(x);
        is(x, 2, 1);
        Check.promise(25, "an edition that nobody read makes none");
        Given.empty(x, 2, 5);
        x.work(5);
        is(x, 2, 1);
        x.work(1);
        is(x, 2, 1);
        Check.due(8, () -> x.edition(2));
    }

    private static void deadInOlderSegments() {
        Check.promise(26, "a place of such an entry in an older segment is dead from then on");
        SearchKeeper x = segments(3, 2);
        is(x, 2, 0);
        Given.reread(x, 2);
        is(x, 3, 1);
        Given.reread(x, 5);
        // 3 with one dead, 2 with one dead, 1, 1: the last two become one.
        is(x, 3, 2);
        Given.reread(x, 2, 5);
        // That one was all dead, and went.
        is(x, 3, 2);
        Check.promise(26, "only when the work has ended, and has read it");
        x.empty(3);
        is(x, 3, 2);
        x.work(1);
        is(x, 3, 2);
        x.work(1);
        is(x, 3, 3);
    }

    private static void entriesThatWent() {
        Check.promise(26, "so are places of entries that went");
        SearchKeeper x = segments(3);
        x.move(2, 0, 'k');
        x.work(1);
        is(x, 1, 0);
        x.work(1);
        is(x, 1, 1);
        Check.promise(26, "that went with a folder");
        SearchKeeper y = segments(2);
        y.make(1, 'k', true);
        y.make(4, 'k', false);
        y.make(4, 'l', false);
        Given.worked(y);
        is(y, 2, 0);
        y.move(2, 4, 'm');
        Given.worked(y);
        is(y, 2, 0);
        goes(y, 1, 1, 4);
        Check.promise(26, "of files; those of folders have no place");
        SearchKeeper z = segments(1);
        z.make(1, 'k', true);
        Given.worked(z);
        goes(z, 1, 0, 3);
    }

    private static void readAndGoneInOneWork() {
        Check.promise(25, "all entries of files that got an edition in it, as they are then: not gone ones");
        SearchKeeper x = nested();
        x.move(5, 1, 'l');
        x.lose(1, 1);
        x.empty(6);
        x.remove(4);
        // 6 is read, and then goes with 5 and 4, in which it lies, as the keeper knows it.
        Check.due(4, () -> x.work(500));
        Check.due(NONE, () -> x.edition(6));
        is(x, 2, 1);
        Check.promise(25, "nor is it a place when the next work ends");
        x.empty(2);
        Given.worked(x);
        is(x, 3, 2);
        goes(x, 2, 2, 2);
    }

    /** Segments of 2 and 3, and of 6 and 7; 6 lies in the folder 5, and that in the folder 4. */
    private static SearchKeeper nested() {
        SearchKeeper x = segments(2);
        x.make(1, 'k', true);
        x.make(4, 'k', true);
        x.make(5, 'k', false);
        x.make(1, 'm', false);
        Given.worked(x);
        is(x, 2, 0);
        return x;
    }

    private static void goneAndReadInOneWork() {
        Check.promise(26, "an entry that went and came in one work: its old place is dead, its new one not");
        SearchKeeper x = nested();
        x.move(5, 1, 'l');
        x.lose(1, 1);
        x.remove(4);
        x.move(6, 1, 'o');
        // 6 goes with 5 and 4, and is read anew.
        Check.due(4, () -> x.work(500));
        Check.due(1, () -> x.edition(6));
        is(x, 3, 1);
        goes(x, 2, 0, 7);
    }

    private static void onlyDeadOnes() {
        Check.promise(25, "segments without places that are not dead are taken away");
        SearchKeeper x = segments(2, 1);
        Given.reread(x, 2);
        is(x, 3, 1);
        Given.reread(x, 3);
        // The first one is all dead.
        is(x, 3, 0);
        Given.reread(x, 4);
        is(x, 3, 0);
        goes(x, 2, 0, 2);
        goes(x, 1, 0, 3);
        goes(x, 0, 0, 4);
        Check.promise(25, "and there may be new ones then");
        addSegment(x, 1);
        is(x, 1, 0);
        Check.promise(25, "all three at once");
        SearchKeeper y = segments(1, 1, 1);
        y.watch(1);
        Given.worked(y);
        is(y, 0, 0);
        Check.promise(25, "not one with a place that is not dead");
        SearchKeeper z = segments(8);
        goes(z, 1, 7, 2, 3, 4, 6, 7, 8, 9);
        goes(z, 0, 0, 5);
    }

    private static void threeStay() {
        Check.promise(25, "as long as there are more than 3");
        SearchKeeper x = segments(1, 1, 1);
        is(x, 3, 0);
        Given.worked(x);
        is(x, 3, 0);
        // Each for itself: the one of 3 goes alone.
        goes(x, 2, 0, 3);
        addSegment(x, 1);
        is(x, 3, 0);
        addSegment(x, 1);
        is(x, 3, 0);
        addSegment(x, 1);
        is(x, 3, 0);
    }

    private static void fourMergeTheFirst() {
        Check.promise(25, "the two neighbours whose places together are fewest become one: the first ones");
        SearchKeeper x = segments(1, 2, 3, 3);
        is(x, 3, 0);
        // 2 | 3 4 became 2 3 4, then 5 6 7, then 8 9 10.
        goes(x, 3, 1, 2);
        goes(x, 3, 2, 3);
        goes(x, 2, 0, 4);
        goes(x, 2, 2, 5, 6);
        goes(x, 1, 0, 7);
    }

    private static void fourMergeTheSecond() {
        Check.promise(25, "the two in the midst");
        SearchKeeper x = segments(3, 1, 2, 3);
        is(x, 3, 0);
        // 2 3 4, then 5 | 6 7, then 8 9 10.
        goes(x, 3, 1, 5);
        goes(x, 2, 0, 6, 7);
        goes(x, 1, 0, 2, 3, 4);
    }

    private static void fourMergeTheThird() {
        Check.promise(25, "the last ones");
        SearchKeeper x = segments(3, 3, 2, 1);
        is(x, 3, 0);
        // 2 3 4, then 5 6 7, then 8 9 | 10.
        goes(x, 3, 2, 8, 9);
        goes(x, 2, 0, 10);
        goes(x, 1, 0, 2, 3, 4);
    }

    private static void firstOfSeveral() {
        Check.promise(25, "of several the first ones");
        SearchKeeper x = segments(1, 1, 1, 1);
        // 2 | 3, then 4, then 5.
        goes(x, 2, 0, 5);
        goes(x, 1, 0, 4);
        goes(x, 1, 1, 3);
        SearchKeeper y = segments(3, 1, 2, 1);
        // 2 3 4, then 5 | 6 7, then 8: 3 and 3.
        goes(y, 2, 0, 8);
        goes(y, 2, 2, 6, 7);
        goes(y, 1, 0, 5);
        SearchKeeper z = segments(1, 2, 2, 1);
        // 2 | 3 4, then 5 6, then 7: 3, 4, 3.
        goes(z, 2, 0, 7);
        goes(z, 2, 1, 2);
        goes(z, 1, 1, 5, 6);
    }

    private static void deadOnesIncluded() {
        Check.promise(25, "fewest, dead ones included");
        SearchKeeper y = segments(5, 1, 2);
        goes(y, 3, 4, 2, 3, 4, 5);
        addSegment(y, 1);
        // 5 with 4 dead, 1, 2, 1: 6, 3 and 3, so the second and third; alive alone 2, 3 and 3.
        is(y, 3, 4);
        goes(y, 2, 0, 6);
        SearchKeeper z = segments(2, 2, 3);
        goes(z, 3, 2, 7, 8);
        addSegment(z, 1);
        // 2, 2, 3 with 2 dead, 1: 4, 5 and 4, so the first two; alive alone 4, 3 and 2.
        is(z, 3, 2);
        goes(z, 2, 2, 9);
    }

    private static void withoutTheirDeadPlaces() {
        Check.promise(26, "become one, without their dead places, those of others stay");
        SearchKeeper x = segments(3, 2, 9);
        goes(x, 3, 4, 2, 5, 8, 9);
        addSegment(x, 9);
        // 3 with 1 dead, 2 with 1 dead, 9 with 2 dead, 9.
        is(x, 3, 2);
        // 3 4 | 6 are left of the first one.
        goes(x, 3, 4, 3, 4);
        goes(x, 2, 2, 6);
    }

    private static void takenAwayBeforeMerging() {
        Check.promise(25, "then segments without other places are taken away, then they are counted");
        SearchKeeper x = segments(1, 1, 1);
        Given.reread(x, 3);
        is(x, 3, 0);
        // None was merged: each one goes alone.
        goes(x, 2, 0, 4);
        goes(x, 1, 0, 3);
        SearchKeeper y = segments(2, 1, 1);
        y.make(1, 'z', false);
        Given.reread(y, 2, 3);
        // The one of two was all dead; 1, 1 and 3 are left.
        is(y, 3, 0);
        goes(y, 2, 0, 4);
        goes(y, 1, 0, 5);
    }

    private static void atThePlaceOfTheFirst() {
        Check.promise(25, "the two become one where they were: neighbours stay neighbours");
        SearchKeeper x = segments(4, 1, 1, 9);
        // 4, 2, 9.
        is(x, 3, 0);
        addSegment(x, 7);
        // 4, 2, 9, 7: the first two, of 2 to 7.
        is(x, 3, 0);
        goes(x, 3, 5, 2, 3, 4, 5, 6);
        goes(x, 2, 0, 7);
        SearchKeeper y = segments(9, 3, 1, 1);
        // 9, 3, 2.
        addSegment(y, 1);
        // 9, 3, 2, 1: the last two.
        is(y, 3, 0);
        goes(y, 3, 2, 14, 15);
        goes(y, 2, 0, 16);
        SearchKeeper z = segments(1, 1, 9, 3);
        // 2, 9, 3.
        addSegment(z, 2);
        // 2, 9, 3, 2: the last two.
        is(z, 3, 0);
        goes(z, 3, 3, 13, 14, 15);
        goes(z, 2, 0, 16, 17);
    }

    private static void behindTheOthers() {
        Check.promise(25, "a new segment behind the others");
        SearchKeeper x = segments(1, 5, 1);
        addSegment(x, 2);
        // 1, 5, 1, 2: the last two; ahead of the others it would be the first two.
        goes(x, 3, 1, 8);
        goes(x, 2, 0, 9, 10);
        Check.promise(25, "also that of a file which was read before");
        SearchKeeper y = segments(2, 5, 1);
        Given.reread(y, 2);
        // 2 with one dead, 5, 1, 1: the last two.
        is(y, 3, 1);
        goes(y, 3, 2, 9);
        goes(y, 2, 1, 2);
    }
}
