/** Promises 27 to 30 at the edges, sentence by sentence of 'Questions' in the document. */
public final class QuestionsEdgesTest {
    private static final long INDEX = Check.INDEX, ARGUMENT = Check.ARGUMENT;
    private static final int NONE = SearchKeeper.NONE;
    private static final int OPEN = SearchKeeper.OPEN, CLOSE = SearchKeeper.CLOSE;

    public static void main(String[] args) {
        nothingYet();
        wordsOfAnswers();
        personsOfAnswers();
        foldersOfAnswers();
        withTheseWords();
        filesThatHaveAnEntry();
        belowTheFolderAsKnown();
        waysOverEntriesAlone();
        waysEndAtRoots();
        notGone();
        rightsOfNow();
        placesOfAnswers();
        byFallingScores();
        scores();
        tenMore();
        mostOfAll();
        personBeforeWordsBeforePlace();
        readAfresh();
        byTheLimitsOfNow();
        whereTheyLieNow();
        theirRootOrBelowThat();
        closestInputs();
        closestOfWhatIsKnown();
        leastDifference();
        lesserPlaceLeast();
        firstWordLess();
        differentPlaces();
        placesFromNoughtToNineteen();
        Check.end("QuestionsEdgesTest");
    }

    private static SearchKeeper text(int... marks) {
        return Given.text(2, 20, marks);
    }

    /** A root 1 with the folder 2, in that the folder 3; the files 4 in 1, 5 in 2, 6 in 3: all 9. */
    private static SearchKeeper nested() {
        SearchKeeper x = new SearchKeeper();
        x.make(0, 'r', true);
        x.make(1, 'a', true);
        x.make(2, 'a', true);
        for (int folder = 1; folder < 4; folder++) {
            x.make(folder, 'f', false);
            x.write(folder + 3, 9);
        }
        x.watch(1);
        return Given.worked(x);
    }

    private static void nothingYet() {
        Check.promise(27, "a new object has no files");
        SearchKeeper x = new SearchKeeper();
        Check.due(0, () -> x.answers(0, 0, NONE, NONE));
        Check.due(0, () -> x.answers(0, 0, 0, 0));
        Check.promise(28, "a new object has no files");
        Check.due(0, () -> x.answersAnew(0, 0, NONE, NONE));
        Check.due(0, () -> x.answersAnew(0, 0, 0, 0));
        Check.promise(29, "a new object has no files");
        Check.due(INDEX, () -> x.answer(0, 0, NONE, 0));
        Check.promise(30, "a new object has no files");
        Check.due(INDEX, () -> x.closest(0, 1, 0, 0));
    }

    private static void wordsOfAnswers() {
        SearchKeeper x = text(0, 99);
        int[] wrong = {-1, 100, OPEN, CLOSE, Integer.MAX_VALUE, Integer.MIN_VALUE};
        Check.promise(27, "word: 0 to 99");
        Check.due(1, () -> x.answers(0, 0, NONE, NONE));
        Check.due(1, () -> x.answers(0, 99, NONE, NONE));
        for (int word : wrong) {
            Check.due(ARGUMENT, () -> x.answers(0, word, NONE, NONE));
            Check.due(ARGUMENT, () -> x.answersAnew(0, word, NONE, NONE));
            Check.due(ARGUMENT, () -> x.answer(0, word, NONE, 0));
        }
        Check.promise(27, "second: 0 to 99, or NONE");
        Check.due(1, () -> x.answers(0, 99, 0, NONE));
        Check.due(1, () -> x.answers(0, 0, 99, NONE));
        for (int word : wrong) {
            if (word != NONE) {
                Check.due(ARGUMENT, () -> x.answers(0, 0, word, NONE));
                Check.due(ARGUMENT, () -> x.answersAnew(0, 0, word, NONE));
                Check.due(ARGUMENT, () -> x.answer(0, 0, word, 0));
            }
        }
        Check.promise(28, "words: 0 to 99, the second one or NONE");
        Check.due(1, () -> x.answersAnew(0, 0, NONE, NONE));
        Check.due(1, () -> x.answersAnew(0, 99, 0, NONE));
        Check.promise(29, "words: 0 to 99, the second one or NONE");
        Check.due(102, () -> x.answer(0, 99, NONE, 0));
        Check.due(1202, () -> x.answer(0, 0, 99, 0));
        Check.due(202, () -> x.answer(0, 99, 0, 0));
    }

    private static void personsOfAnswers() {
        Check.promise(27, "person: 0 to 3");
        SearchKeeper x = text(5);
        for (int person = 0; person < 4; person++) {
            int each = person;
            Check.due(1, () -> x.answers(each, 5, NONE, NONE));
            Check.due(1, () -> x.answersAnew(each, 5, NONE, NONE));
            Check.due(102, () -> x.answer(each, 5, NONE, 0));
            Check.due(NONE, () -> x.closest(each, 2, 5, 5));
        }
        for (int person : new int[] {-1, 4, 32, Integer.MAX_VALUE, Integer.MIN_VALUE}) {
            Check.due(INDEX, () -> x.answers(person, 5, NONE, NONE));
            Check.due(INDEX, () -> x.answersAnew(person, 5, NONE, NONE));
            Check.due(INDEX, () -> x.answer(person, 5, NONE, 0));
            Check.due(INDEX, () -> x.closest(person, 2, 5, 5));
        }
    }

    private static void foldersOfAnswers() {
        Check.promise(27, "folder: the number of a node that was made, or NONE");
        SearchKeeper x = nested();
        for (int folder : new int[] {0, 4, 5, 6}) {
            Check.due(0, () -> x.answers(0, 9, NONE, folder));
            Check.due(0, () -> x.answersAnew(0, 9, NONE, folder));
        }
        for (int folder : new int[] {-2, -3, 7, 60, Integer.MAX_VALUE, Integer.MIN_VALUE}) {
            Check.due(INDEX, () -> x.answers(0, 9, NONE, folder));
            Check.due(INDEX, () -> x.answersAnew(0, 9, NONE, folder));
        }
        Check.promise(27, "that is gone, too: below it, as the keeper knows it");
        x.remove(3);
        Check.due(0, () -> x.answers(0, 9, NONE, 3));
        x.move(5, 1, 'k');
        x.remove(2);
        x.lose(1, 3);
        Check.due(1, () -> x.answers(0, 9, NONE, 2));
        Check.promise(28, "that is gone, too: nothing lies below it now");
        Check.due(0, () -> x.answersAnew(0, 9, NONE, 2));
        Check.due(0, () -> x.answersAnew(0, 9, NONE, 3));
    }

    private static void withTheseWords() {
        Check.promise(27, "with these words: both, if there are two");
        SearchKeeper x = text(1, 2, 1);
        Check.due(1, () -> x.answers(0, 1, NONE, NONE));
        Check.due(1, () -> x.answers(0, 1, 2, NONE));
        Check.due(1, () -> x.answers(0, 2, 1, NONE));
        Check.due(0, () -> x.answers(0, 1, 3, NONE));
        Check.due(0, () -> x.answers(0, 3, 1, NONE));
        Check.due(0, () -> x.answers(0, 3, 3, NONE));
        Check.due(INDEX, () -> x.answer(0, 1, 3, 0));
        Check.due(INDEX, () -> x.answer(0, 3, 1, 0));
        Check.due(0, () -> x.answersAnew(0, 1, 3, NONE));
        Check.due(0, () -> x.answersAnew(0, 3, 1, NONE));
        Check.promise(27, "one place is enough, if both are the same");
        Check.due(1, () -> x.answers(0, 2, 2, NONE));
        Check.due(1, () -> x.answersAnew(0, 2, 2, NONE));
        Check.due(202, () -> x.answer(0, 2, 2, 0));
    }

    private static void filesThatHaveAnEntry() {
        Check.promise(27, "files that have an entry with these words, whatever the text is now");
        SearchKeeper x = Given.files(2);
        x.write(2, 5);
        Check.due(0, () -> x.answers(0, 5, NONE, NONE));
        Given.worked(x);
        Check.due(1, () -> x.answers(0, 5, NONE, NONE));
        x.empty(2);
        x.write(3, 5);
        Check.due(1, () -> x.answers(0, 5, NONE, NONE));
        Check.due(102, () -> x.answer(0, 5, NONE, 0));
        x.lock(2, true);
        Check.due(1, () -> x.answers(0, 5, NONE, NONE));
        Given.worked(x);
        Check.due(2, () -> x.answers(0, 5, NONE, NONE));
        x.lock(2, false);
        Given.worked(x);
        Check.due(103, () -> x.answer(0, 5, NONE, 0));
        Check.due(1, () -> x.answers(0, 5, NONE, NONE));
        Check.promise(27, "moved out of all roots, as long as there is the entry");
        x.move(3, 0, 'k');
        Check.due(1, () -> x.answers(0, 5, NONE, NONE));
        Given.worked(x);
        Check.due(0, () -> x.answers(0, 5, NONE, NONE));
        Check.promise(27, "words of an entry before do not come back");
        x.move(3, 1, 'k');
        x.empty(3);
        Given.worked(x);
        Check.due(0, () -> x.answers(0, 5, NONE, NONE));
    }

    private static void belowTheFolderAsKnown() {
        Check.promise(27, "below the folder, as the keeper knows it: its parent, or that of its parent");
        SearchKeeper x = nested();
        Check.due(3, () -> x.answers(0, 9, NONE, 1));
        Check.due(2, () -> x.answers(0, 9, NONE, 2));
        Check.due(1, () -> x.answers(0, 9, NONE, 3));
        Check.promise(27, "as it was when it was looked at");
        x.move(6, 1, 'k');
        Check.due(2, () -> x.answers(0, 9, NONE, 2));
        x.lose(1, 1);
        Check.due(1, () -> x.answersAnew(0, 9, NONE, 2));
        x.crawl(1);
        Given.worked(x);
        Check.due(1, () -> x.answers(0, 9, NONE, 2));
        Check.due(3, () -> x.answers(0, 9, NONE, 1));
        Check.promise(27, "without a folder: wherever it lies");
        SearchKeeper y = nested();
        y.move(5, 1, 'k');
        y.remove(2);
        y.lose(1, 1);
        Check.due(2, () -> y.answers(0, 9, NONE, NONE));
    }

    private static void waysOverEntriesAlone() {
        Check.promise(27, "ways lead over entries alone: not over a folder without one");
        SearchKeeper x = Given.worked(Given.files(0));
        x.make(1, 'k', true);
        x.make(2, 'l', true);
        x.lose(1, 2);
        x.make(3, 'f', false);
        x.write(4, 9);
        Given.worked(x);
        Check.due(1, x::entries);
        Check.due(1, () -> x.answers(0, 9, NONE, NONE));
        Check.due(1, () -> x.answers(0, 9, NONE, 3));
        Check.due(0, () -> x.answers(0, 9, NONE, 2));
        Check.due(0, () -> x.answers(0, 9, NONE, 1));
        Check.due(0, () -> x.answers(0, 9, NONE, 0));
        Check.due(1, () -> x.answersAnew(0, 9, NONE, 1));
        x.move(3, 2, 'm');
        Check.due(3, () -> x.work(500));
        Check.due(1, () -> x.answers(0, 9, NONE, 2));
        Check.due(0, () -> x.answers(0, 9, NONE, 1));
        x.crawl(1);
        Given.worked(x);
        Check.due(1, () -> x.answers(0, 9, NONE, 1));
        Check.promise(27, "nor over one that lost its entry");
        x.watch(1);
        x.watch(3);
        Check.due(2, () -> x.work(2));
        Check.due(1, x::entries);
        x.watch(3);
        Check.due(1, () -> x.answers(0, 9, NONE, 3));
        Check.due(0, () -> x.answers(0, 9, NONE, 2));
    }

    private static void waysEndAtRoots() {
        Check.promise(27, "ways end at roots");
        SearchKeeper x = nested();
        x.watch(1);
        Check.due(3, () -> x.answers(0, 9, NONE, 1));
        Check.due(0, () -> x.answers(0, 9, NONE, 0));
        x.watch(3);
        Check.due(1, () -> x.answers(0, 9, NONE, 3));
        Check.due(1, () -> x.answers(0, 9, NONE, 2));
        Check.due(2, () -> x.answers(0, 9, NONE, 1));
        Check.due(3, () -> x.answers(0, 9, NONE, NONE));
        x.watch(3);
        Check.due(2, () -> x.answers(0, 9, NONE, 2));
        Check.promise(27, "the folder 0 as a root: all lies below it");
        SearchKeeper y = nested();
        y.watch(1);
        y.watch(0);
        Given.worked(y);
        Check.due(3, () -> y.answers(0, 9, NONE, 0));
        Check.due(3, () -> y.answers(0, 9, NONE, 1));
        Check.promise(27, "59 levels");
        SearchKeeper z = new SearchKeeper();
        for (int node = 1; node < 60; node++) {
            z.make(node - 1, 'd', node < 59);
        }
        z.write(59, 9);
        z.watch(0);
        Given.worked(z);
        for (int folder = 0; folder < 59; folder++) {
            int each = folder;
            Check.due(1, () -> z.answers(0, 9, NONE, each));
            Check.due(1, () -> z.answersAnew(0, 9, NONE, each));
        }
        Check.due(0, () -> z.answers(0, 9, NONE, 59));
        Check.due(0, () -> z.answersAnew(0, 9, NONE, 59));
    }

    private static void notGone() {
        Check.promise(27, "that are not gone");
        SearchKeeper x = nested();
        x.remove(4);
        Check.due(2, () -> x.answers(0, 9, NONE, NONE));
        Check.due(105, () -> x.answer(0, 9, NONE, 0));
        x.remove(2);
        Check.due(0, () -> x.answers(0, 9, NONE, NONE));
        Check.due(INDEX, () -> x.answer(0, 9, NONE, 0));
        Check.due(0, () -> x.answersAnew(0, 9, NONE, NONE));
        Check.due(5, x::entries);
    }

    private static void rightsOfNow() {
        Check.promise(27, "that the person may read now");
        SearchKeeper x = nested();
        x.people(4, 1);
        x.people(3, 2);
        Check.due(2, () -> x.answers(0, 9, NONE, NONE));
        Check.due(2, () -> x.answers(1, 9, NONE, NONE));
        Check.due(1, () -> x.answers(2, 9, NONE, NONE));
        Check.due(0, () -> x.answers(2, 9, NONE, 3));
        Check.due(104, () -> x.answer(0, 9, NONE, 0));
        Check.due(105, () -> x.answer(1, 9, NONE, 0));
        Check.due(106, () -> x.answer(1, 9, NONE, 1));
        Check.due(INDEX, () -> x.answer(2, 9, NONE, 1));
        Check.due(2, () -> x.answersAnew(1, 9, NONE, NONE));
        Check.due(1, () -> x.answersAnew(2, 9, NONE, NONE));
        Check.promise(27, "by where it lies now, not as the keeper knows it");
        x.move(6, 1, 'k');
        Check.due(2, () -> x.answers(2, 9, NONE, NONE));
        Check.due(1, () -> x.answers(2, 9, NONE, 3));
    }

    private static void placesOfAnswers() {
        Check.promise(29, "0 for the first one, up to one less than the answers");
        SearchKeeper x = nested();
        Check.due(104, () -> x.answer(0, 9, NONE, 0));
        Check.due(105, () -> x.answer(0, 9, NONE, 1));
        Check.due(106, () -> x.answer(0, 9, NONE, 2));
        for (int place : new int[] {3, 4, 60, -1, -2, Integer.MAX_VALUE, Integer.MIN_VALUE}) {
            Check.due(INDEX, () -> x.answer(0, 9, NONE, place));
        }
        Check.promise(29, "57 files, in three folders");
        SearchKeeper y = new SearchKeeper();
        y.make(0, 'x', true);
        y.make(0, 'y', true);
        for (int node = 3; node < 60; node++) {
            y.make(node % 3, (char) ('a' + node / 3), false);
            y.write(node, 7);
        }
        y.watch(0);
        Given.worked(y);
        Check.due(57, () -> y.answers(0, 7, NONE, NONE));
        for (int place = 0; place < 57; place++) {
            int each = place;
            Check.due(103 + each, () -> y.answer(0, 7, NONE, each));
        }
        Check.due(INDEX, () -> y.answer(0, 7, NONE, 57));
    }

    private static void byFallingScores() {
        Check.promise(29, "by falling scores, of several by rising numbers");
        SearchKeeper x = Given.files(6);
        Given.fill(x, 2, 1);
        Given.fill(x, 3, 1, 1, 1);
        Given.fill(x, 4, 1, 1);
        Given.fill(x, 5, 1, 1, 1);
        Given.fill(x, 6, 2, 2, 2, 2);
        Given.fill(x, 7, 1);
        Given.worked(x);
        int[] due = {303, 305, 204, 102, 107};
        for (int place = 0; place < due.length; place++) {
            int each = place;
            Check.due(due[place], () -> x.answer(0, 1, NONE, each));
        }
        Check.due(INDEX, () -> x.answer(0, 1, NONE, due.length));
        Check.promise(29, "files that the person may not read take no place");
        x.people(3, 14);
        x.people(4, 14);
        Check.due(305, () -> x.answer(0, 1, NONE, 0));
        Check.due(102, () -> x.answer(0, 1, NONE, 1));
        Check.due(107, () -> x.answer(0, 1, NONE, 2));
        Check.due(INDEX, () -> x.answer(0, 1, NONE, 3));
        Check.due(303, () -> x.answer(1, 1, NONE, 0));
    }

    private static void scores() {
        Check.promise(29, "how often the words are in the entry, together");
        SearchKeeper x = text(1, 3, 1, 3, 3, 4, 2, 4, 1);
        Check.due(302, () -> x.answer(0, 1, NONE, 0));
        Check.due(102, () -> x.answer(0, 2, NONE, 0));
        Check.due(402, () -> x.answer(0, 1, 2, 0));
        Check.due(402, () -> x.answer(0, 2, 1, 0));
        Check.promise(29, "each counted for itself, also if both are the same");
        Check.due(602, () -> x.answer(0, 1, 1, 0));
        Check.due(202, () -> x.answer(0, 2, 2, 0));
        Check.due(402, () -> x.answer(0, 4, 4, 0));
        Check.promise(29, "words that were not taken are not in the entry");
        SearchKeeper y = Given.text(0, 2, 1, OPEN, 1, CLOSE, 1, 1);
        Check.due(202, () -> y.answer(0, 1, NONE, 0));
    }

    private static void tenMore() {
        Check.promise(29, "10 more, if the second one comes right behind the first one somewhere");
        SearchKeeper x = text(1, 2, 3, 1);
        Check.due(1302, () -> x.answer(0, 1, 2, 0));
        Check.due(302, () -> x.answer(0, 2, 1, 0));
        Check.due(1202, () -> x.answer(0, 2, 3, 0));
        Check.due(202, () -> x.answer(0, 3, 2, 0));
        Check.due(1302, () -> x.answer(0, 3, 1, 0));
        Check.due(302, () -> x.answer(0, 1, 3, 0));
        Check.promise(29, "once, also if it does so twice");
        SearchKeeper y = text(1, 2, 1, 2);
        Check.due(1402, () -> y.answer(0, 1, 2, 0));
        Check.due(1402, () -> y.answer(0, 2, 1, 0));
        Check.promise(29, "both the same, one right behind the other one");
        SearchKeeper z = text(5, 6, 6);
        Check.due(1402, () -> z.answer(0, 6, 6, 0));
        Check.due(202, () -> z.answer(0, 5, 5, 0));
        Check.promise(29, "right behind it in the entry, whatever is between in the text");
        SearchKeeper w = Given.text(0, 20, 1, OPEN, 7, CLOSE, CLOSE, 2);
        Check.due(1202, () -> w.answer(0, 1, 2, 0));
        Check.promise(29, "the last word and the first one are no neighbours");
        SearchKeeper v = text(2, 5, 1);
        Check.due(202, () -> v.answer(0, 1, 2, 0));
        Check.promise(29, "nor do words of an edition before count");
        v.empty(2);
        v.write(2, 1);
        Given.worked(v);
        Check.due(INDEX, () -> v.answer(0, 1, 5, 0));
        Check.due(102, () -> v.answer(0, 1, NONE, 0));
    }

    private static void mostOfAll() {
        Check.promise(29, "100 times its score, and the file, together: the greatest one");
        SearchKeeper x = new SearchKeeper();
        for (int node = 1; node < 59; node++) {
            x.make(0, 'a', false);
            x.remove(node);
        }
        x.make(0, 'a', false);
        for (int mark = 0; mark < 20; mark++) {
            x.write(59, 99);
        }
        x.limits(0, 20);
        x.watch(0);
        Given.worked(x);
        Check.due(2059, () -> x.answer(3, 99, NONE, 0));
        Check.due(5059, () -> x.answer(3, 99, 99, 0));
    }

    private static void personBeforeWordsBeforePlace() {
        Check.promise(29, "no such person; the words; no such place, as long as they are in their range");
        SearchKeeper x = text(1);
        Check.due(INDEX, () -> x.answer(4, 100, NONE, 0));
        Check.due(INDEX, () -> x.answer(-1, 1, 100, 0));
        Check.due(ARGUMENT, () -> x.answer(0, 100, NONE, 1));
        Check.due(ARGUMENT, () -> x.answer(0, 1, 100, -1));
        Check.due(INDEX, () -> x.answer(0, 1, NONE, 1));
        Check.due(INDEX, () -> x.answer(4, 1, NONE, 1));
    }

    private static void readAfresh() {
        Check.promise(28, "all files below roots read afresh: without an entry, too");
        SearchKeeper x = Given.files(2);
        x.write(2, 5);
        Check.due(1, () -> x.answersAnew(0, 5, NONE, NONE));
        Given.worked(x);
        x.empty(2);
        x.write(3, 5);
        x.write(3, 6);
        Check.due(1, () -> x.answersAnew(0, 5, NONE, NONE));
        Check.due(1, () -> x.answersAnew(0, 5, 6, NONE));
        Check.due(0, () -> x.answers(0, 6, NONE, NONE));
        Check.promise(28, "locked ones, too");
        x.lock(3, true);
        Check.due(1, () -> x.answersAnew(0, 6, NONE, NONE));
        Check.promise(28, "files below no root are not");
        x.make(0, 'f', false);
        x.write(4, 5);
        Check.due(1, () -> x.answersAnew(0, 5, NONE, NONE));
        x.move(4, 1, 'f');
        Check.due(2, () -> x.answersAnew(0, 5, NONE, NONE));
        x.remove(4);
        Check.due(1, () -> x.answersAnew(0, 5, NONE, NONE));
        x.watch(1);
        Check.due(0, () -> x.answersAnew(0, 5, NONE, NONE));
        Check.promise(28, "nothing is read for the keeper");
        Check.due(2, x::entries);
        Check.due(1, x::segments);
    }

    private static void byTheLimitsOfNow() {
        Check.promise(28, "by the limits of now");
        SearchKeeper x = Given.text(2, 12, 1, OPEN, 2, OPEN, 3, CLOSE, CLOSE, 4);
        x.limits(0, 20);
        Check.due(0, () -> x.answersAnew(0, 2, NONE, NONE));
        Check.due(1, () -> x.answersAnew(0, 1, 4, NONE));
        x.limits(1, 20);
        Check.due(1, () -> x.answersAnew(0, 2, NONE, NONE));
        Check.due(0, () -> x.answersAnew(0, 3, NONE, NONE));
        x.limits(2, 3);
        Check.due(1, () -> x.answersAnew(0, 3, NONE, NONE));
        Check.due(0, () -> x.answersAnew(0, 4, NONE, NONE));
        x.limits(2, 4);
        Check.due(1, () -> x.answersAnew(0, 4, NONE, NONE));
        Check.due(1, () -> x.answers(0, 3, 4, NONE));
        x.limits(0, 1);
        Check.due(1, () -> x.answers(0, 3, 4, NONE));
    }

    private static void whereTheyLieNow() {
        Check.promise(28, "where they lie now");
        SearchKeeper x = nested();
        x.move(5, 3, 'k');
        Check.due(2, () -> x.answersAnew(0, 9, NONE, 3));
        Check.due(1, () -> x.answers(0, 9, NONE, 3));
        x.move(3, 1, 'k');
        Check.due(0, () -> x.answersAnew(0, 9, NONE, 2));
        Check.due(2, () -> x.answers(0, 9, NONE, 2));
    }

    private static void theirRootOrBelowThat() {
        Check.promise(28, "below the folder, which is their root, or below that");
        SearchKeeper x = nested();
        x.make(0, 's', true);
        x.make(7, 'f', false);
        x.write(8, 9);
        x.watch(7);
        Check.due(4, () -> x.answersAnew(0, 9, NONE, NONE));
        Check.due(3, () -> x.answersAnew(0, 9, NONE, 1));
        Check.due(2, () -> x.answersAnew(0, 9, NONE, 2));
        Check.due(1, () -> x.answersAnew(0, 9, NONE, 3));
        Check.due(1, () -> x.answersAnew(0, 9, NONE, 7));
        Check.due(0, () -> x.answersAnew(0, 9, NONE, 0));
        Check.promise(28, "a file is not below itself");
        Check.due(0, () -> x.answersAnew(0, 9, NONE, 4));
        Check.promise(28, "a folder above a root holds none of it, nor one beside it");
        x.watch(1);
        x.watch(3);
        Check.due(1, () -> x.answersAnew(0, 9, NONE, 3));
        Check.due(0, () -> x.answersAnew(0, 9, NONE, 2));
        Check.due(0, () -> x.answersAnew(0, 9, NONE, 1));
        Check.due(2, () -> x.answersAnew(0, 9, NONE, NONE));
    }

    private static void closestInputs() {
        Check.promise(30, "words: 0 to 99, both of them");
        SearchKeeper x = text(0, 99);
        Check.due(1, () -> x.closest(0, 2, 0, 99));
        Check.due(100, () -> x.closest(0, 2, 99, 0));
        for (int word : new int[] {-1, 100, OPEN, CLOSE, Integer.MAX_VALUE, Integer.MIN_VALUE}) {
            Check.due(ARGUMENT, () -> x.closest(0, 2, word, 0));
            Check.due(ARGUMENT, () -> x.closest(0, 2, 0, word));
        }
        Check.promise(30, "there is no such file");
        for (int file : new int[] {0, 1, 3, -1, 60, Integer.MAX_VALUE, Integer.MIN_VALUE}) {
            Check.due(INDEX, () -> x.closest(0, file, 0, 99));
            Check.due(INDEX, () -> x.closest(0, file, 100, 99));
        }
        Check.promise(30, "or the person may not read it");
        x.people(2, 14);
        Check.due(INDEX, () -> x.closest(0, 2, 0, 99));
        Check.due(INDEX, () -> x.closest(0, 2, 0, 100));
        Check.due(1, () -> x.closest(1, 2, 0, 99));
        x.people(0, 13);
        Check.due(INDEX, () -> x.closest(1, 2, 0, 99));
        Check.due(1, () -> x.closest(2, 2, 0, 99));
        x.remove(2);
        Check.due(INDEX, () -> x.closest(2, 2, 0, 99));
    }

    private static void closestOfWhatIsKnown() {
        Check.promise(30, "NONE if it has no entry");
        SearchKeeper x = Given.files(1);
        Given.fill(x, 2, 1, 2);
        Check.due(NONE, () -> x.closest(0, 2, 1, 2));
        Given.worked(x);
        Check.due(1, () -> x.closest(0, 2, 1, 2));
        x.empty(2);
        Check.due(1, () -> x.closest(0, 2, 1, 2));
        x.move(2, 0, 'a');
        Check.due(1, () -> x.closest(0, 2, 1, 2));
        Given.worked(x);
        Check.due(NONE, () -> x.closest(0, 2, 1, 2));
        Check.promise(30, "a file below no root, that never had one");
        x.make(0, 'k', false);
        x.write(3, 1);
        x.write(3, 1);
        Check.due(NONE, () -> x.closest(0, 3, 1, 1));
    }

    private static void leastDifference() {
        Check.promise(30, "with the least difference");
        SearchKeeper x = text(1, 0, 0, 2, 0, 1, 0, 0, 0, 2, 1);
        Check.due(1009, () -> x.closest(0, 2, 1, 2));
        Check.due(910, () -> x.closest(0, 2, 2, 1));
        SearchKeeper y = text(1, 0, 2, 0, 0, 0, 2, 1);
        Check.due(706, () -> y.closest(0, 2, 1, 2));
        Check.promise(30, "places in the entry, not in the text");
        SearchKeeper z = Given.text(0, 20, CLOSE, 1, OPEN, 5, CLOSE, 2);
        Check.due(1, () -> z.closest(0, 2, 1, 2));
    }

    private static void lesserPlaceLeast() {
        Check.promise(30, "of several the ones whose lesser place is least");
        SearchKeeper x = text(0, 2, 1, 0, 1, 2);
        Check.due(201, () -> x.closest(0, 2, 1, 2));
        Check.due(102, () -> x.closest(0, 2, 2, 1));
        SearchKeeper y = text(0, 1, 2, 0, 2, 1);
        Check.due(102, () -> y.closest(0, 2, 1, 2));
        Check.due(201, () -> y.closest(0, 2, 2, 1));
        SearchKeeper z = text(2, 0, 1, 0, 0, 0, 1, 0, 2);
        Check.due(200, () -> z.closest(0, 2, 1, 2));
        SearchKeeper w = text(1, 3, 2, 3, 2, 3, 1);
        Check.due(2, () -> w.closest(0, 2, 1, 2));
        Check.due(200, () -> w.closest(0, 2, 2, 1));
    }

    private static void firstWordLess() {
        Check.promise(30, "of several the one whose place of the first word is less");
        SearchKeeper x = text(4, 4);
        Check.due(1, () -> x.closest(0, 2, 4, 4));
        SearchKeeper y = text(4, 0, 4, 4, 4);
        Check.due(203, () -> y.closest(0, 2, 4, 4));
        SearchKeeper z = text(4, 0, 0, 4);
        Check.due(3, () -> z.closest(0, 2, 4, 4));
    }

    private static void differentPlaces() {
        Check.promise(30, "different places");
        SearchKeeper x = text(4, 5);
        Check.due(NONE, () -> x.closest(0, 2, 4, 4));
        Check.due(NONE, () -> x.closest(0, 2, 5, 5));
        Check.due(1, () -> x.closest(0, 2, 4, 5));
        Check.promise(30, "or none with both");
        Check.due(NONE, () -> x.closest(0, 2, 4, 6));
        Check.due(NONE, () -> x.closest(0, 2, 6, 4));
        Check.due(NONE, () -> x.closest(0, 2, 6, 6));
        SearchKeeper y = text();
        Check.due(NONE, () -> y.closest(0, 2, 0, 0));
        Check.due(NONE, () -> y.closest(0, 2, 0, 1));
    }

    private static void placesFromNoughtToNineteen() {
        Check.promise(30, "numbered from 0, to 19");
        int[] marks = new int[20];
        marks[0] = 1;
        marks[19] = 2;
        SearchKeeper x = text(marks);
        Check.due(19, () -> x.closest(0, 2, 1, 2));
        Check.due(1900, () -> x.closest(0, 2, 2, 1));
        Check.due(1918, () -> x.closest(0, 2, 2, 0));
        Check.due(1, () -> x.closest(0, 2, 1, 0));
        Check.due(102, () -> x.closest(0, 2, 0, 0));
    }
}
