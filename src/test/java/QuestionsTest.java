/** Promises 27 to 30: answers, their ranks, and closest places. */
public final class QuestionsTest {
    private static final long INDEX = Check.INDEX, ARGUMENT = Check.ARGUMENT;
    private static final int NONE = SearchKeeper.NONE;

    public static void main(String[] args) {
        answers();
        answersWithin();
        answersByRights();
        answersInputs();
        answersAnew();
        answersAnewWithin();
        answersAnewInputs();
        scores();
        ranks();
        answerInputs();
        closest();
        closestInputs();
        Check.end("QuestionsTest");
    }

    /**
     * A root 1 (r) with a folder 2 (a) and in that a folder 3 (b); the files 4 in 1, 5 in 2, 6 in 3;
     * all know the word 9, 5 and 6 know 8, 6 knows 7.
     */
    private static SearchKeeper nested() {
        SearchKeeper x = new SearchKeeper();
        x.make(0, 'r', true);
        x.make(1, 'a', true);
        x.make(2, 'b', true);
        x.make(1, 'f', false);
        x.make(2, 'f', false);
        x.make(3, 'f', false);
        Given.fill(x, 4, 9);
        Given.fill(x, 5, 9, 8);
        Given.fill(x, 6, 9, 8, 7);
        x.watch(1);
        x.work(500);
        return x;
    }

    private static SearchKeeper oneText(int... marks) {
        return Given.text(2, 20, marks);
    }

    private static void answers() {
        Check.promise(27, "with one word, with both");
        SearchKeeper x = nested();
        Check.due(3, () -> x.answers(0, 9, NONE, NONE));
        Check.due(2, () -> x.answers(0, 8, NONE, NONE));
        Check.due(1, () -> x.answers(0, 7, NONE, NONE));
        Check.due(0, () -> x.answers(0, 0, NONE, NONE));
        Check.due(0, () -> x.answers(0, 99, NONE, NONE));
        Check.due(2, () -> x.answers(0, 9, 8, NONE));
        Check.due(2, () -> x.answers(0, 8, 9, NONE));
        Check.due(1, () -> x.answers(0, 7, 9, NONE));
        Check.due(0, () -> x.answers(0, 7, 6, NONE));
        Check.due(0, () -> x.answers(0, 6, 7, NONE));
        Check.due(3, () -> x.answers(0, 9, 9, NONE));

        Check.promise(27, "by the entry, not by the file of now");
        x.empty(4);
        x.write(5, 7);
        Check.due(3, () -> x.answers(0, 9, NONE, NONE));
        Check.due(1, () -> x.answers(0, 7, NONE, NONE));
        x.remove(6);
        Check.due(2, () -> x.answers(0, 9, NONE, NONE));
        x.move(5, 0, 'f');
        Check.due(2, () -> x.answers(0, 9, NONE, NONE));
        x.work(500);
        Check.due(0, () -> x.answers(0, 9, NONE, NONE));
    }

    private static void answersWithin() {
        Check.promise(27, "below the folder, as the keeper knows it");
        SearchKeeper x = nested();
        Check.due(3, () -> x.answers(0, 9, NONE, 1));
        Check.due(2, () -> x.answers(0, 9, NONE, 2));
        Check.due(1, () -> x.answers(0, 9, NONE, 3));
        Check.due(0, () -> x.answers(0, 9, NONE, 4));
        Check.due(0, () -> x.answers(0, 9, NONE, 0));
        x.move(3, 1, 'b');
        Check.due(2, () -> x.answers(0, 9, NONE, 2));
        x.work(500);
        Check.due(1, () -> x.answers(0, 9, NONE, 2));
        x.remove(3);
        Check.due(0, () -> x.answers(0, 9, NONE, 3));

        Check.promise(27, "ways lead over entries alone, and end at roots");
        SearchKeeper y = nested();
        y.move(2, 0, 'a');
        Check.due(3, () -> y.answers(0, 9, NONE, 1));
        y.watch(2);
        Check.due(1, () -> y.answers(0, 9, NONE, 1));
        Check.due(2, () -> y.answers(0, 9, NONE, 2));
        Check.due(1, () -> y.answers(0, 9, NONE, 3));
        Check.due(3, () -> y.answers(0, 9, NONE, NONE));
        SearchKeeper z = nested();
        z.move(3, 1, 'b');
        z.remove(2);
        z.lose(1, 2);
        Check.due(2, () -> z.answers(0, 9, NONE, 1));
        Check.due(1, () -> z.answers(0, 9, NONE, 2));
        z.remove(4);
        Check.due(2, () -> z.work(500));
        Check.due(1, () -> z.answers(0, 9, NONE, 1));
    }

    private static void answersByRights() {
        Check.promise(27, "that the person may read now");
        SearchKeeper x = nested();
        x.people(5, 2);
        Check.due(2, () -> x.answers(0, 9, NONE, NONE));
        Check.due(3, () -> x.answers(1, 9, NONE, NONE));
        x.people(2, 8);
        Check.due(1, () -> x.answers(0, 9, NONE, NONE));
        Check.due(1, () -> x.answers(1, 9, NONE, NONE));
        Check.due(2, () -> x.answers(3, 9, NONE, NONE));
        Check.due(1, () -> x.answers(3, 9, NONE, 2));
        x.move(6, 1, 'k');
        Check.due(2, () -> x.answers(0, 9, NONE, NONE));
        x.people(0, 0);
        Check.due(0, () -> x.answers(3, 9, NONE, NONE));
        Check.due(0, () -> x.answersAnew(3, 9, NONE, NONE));
    }

    private static void answersInputs() {
        Check.promise(27, "wrong inputs");
        SearchKeeper x = nested();
        Check.due(INDEX, () -> x.answers(-1, 9, NONE, NONE));
        Check.due(INDEX, () -> x.answers(4, 9, NONE, NONE));
        Check.due(INDEX, () -> x.answers(0, 9, NONE, -2));
        Check.due(INDEX, () -> x.answers(0, 9, NONE, 7));
        Check.due(INDEX, () -> x.answers(0, 100, NONE, 7));
        Check.due(INDEX, () -> x.answers(4, 100, NONE, 0));
        Check.due(ARGUMENT, () -> x.answers(0, 100, NONE, NONE));
        Check.due(ARGUMENT, () -> x.answers(0, -1, NONE, NONE));
        Check.due(ARGUMENT, () -> x.answers(0, 9, 100, NONE));
        Check.due(ARGUMENT, () -> x.answers(0, 9, -2, NONE));
        x.remove(3);
        Check.due(1, () -> x.answers(0, 9, NONE, 2));
        Check.due(0, () -> x.answers(0, 9, NONE, 6));
    }

    private static void answersAnew() {
        Check.promise(28, "read afresh by the limits of now, locked ones too");
        SearchKeeper x = nested();
        Check.due(3, () -> x.answersAnew(0, 9, NONE, NONE));
        x.empty(4);
        x.write(4, 5);
        x.write(5, SearchKeeper.OPEN);
        Check.due(2, () -> x.answersAnew(0, 9, NONE, NONE));
        Check.due(1, () -> x.answersAnew(0, 5, NONE, NONE));
        x.lock(4, true);
        Check.due(1, () -> x.answersAnew(0, 5, NONE, NONE));
        x.limits(2, 1);
        Check.due(2, () -> x.answersAnew(0, 9, NONE, NONE));
        Check.due(0, () -> x.answersAnew(0, 8, NONE, NONE));
        x.limits(2, 2);
        Check.due(2, () -> x.answersAnew(0, 8, 9, NONE));
        Check.due(0, () -> x.answersAnew(0, 7, NONE, NONE));
        Check.due(0, () -> x.answersAnew(0, 9, 5, NONE));
        Check.due(1, () -> x.answersAnew(0, 5, 5, NONE));

        Check.promise(28, "as the person may, as long as it is there");
        x.people(5, 14);
        Check.due(1, () -> x.answersAnew(0, 8, NONE, NONE));
        Check.due(2, () -> x.answersAnew(1, 8, NONE, NONE));
        x.remove(6);
        Check.due(0, () -> x.answersAnew(0, 8, NONE, NONE));

        Check.promise(28, "without any entry");
        SearchKeeper y = new SearchKeeper();
        y.make(0, 'r', true);
        y.make(1, 'f', false);
        y.write(2, 3);
        Check.due(0, () -> y.answersAnew(0, 3, NONE, NONE));
        y.watch(1);
        Check.due(1, () -> y.answersAnew(0, 3, NONE, NONE));
        Check.due(0, () -> y.answers(0, 3, NONE, NONE));
    }

    private static void answersAnewWithin() {
        Check.promise(28, "where they lie now, below the folder, which is their root, or below that");
        SearchKeeper x = nested();
        Check.due(3, () -> x.answersAnew(0, 9, NONE, 1));
        Check.due(2, () -> x.answersAnew(0, 9, NONE, 2));
        Check.due(1, () -> x.answersAnew(0, 9, NONE, 3));
        Check.due(0, () -> x.answersAnew(0, 9, NONE, 0));
        Check.due(0, () -> x.answersAnew(0, 9, NONE, 6));
        x.move(3, 1, 'b');
        Check.due(1, () -> x.answersAnew(0, 9, NONE, 2));
        x.move(2, 0, 'a');
        Check.due(2, () -> x.answersAnew(0, 9, NONE, NONE));
        Check.due(0, () -> x.answersAnew(0, 9, NONE, 2));
        x.watch(2);
        Check.due(3, () -> x.answersAnew(0, 9, NONE, NONE));
        Check.due(1, () -> x.answersAnew(0, 9, NONE, 2));
        Check.due(2, () -> x.answersAnew(0, 9, NONE, 1));
        Check.due(0, () -> x.answersAnew(0, 9, NONE, 0));
    }

    private static void answersAnewInputs() {
        Check.promise(28, "wrong inputs");
        SearchKeeper x = nested();
        Check.due(INDEX, () -> x.answersAnew(-1, 9, NONE, NONE));
        Check.due(INDEX, () -> x.answersAnew(4, 9, NONE, NONE));
        Check.due(INDEX, () -> x.answersAnew(0, 9, NONE, -2));
        Check.due(INDEX, () -> x.answersAnew(0, 9, NONE, 7));
        Check.due(INDEX, () -> x.answersAnew(0, 100, NONE, 7));
        Check.due(ARGUMENT, () -> x.answersAnew(0, 100, NONE, NONE));
        Check.due(ARGUMENT, () -> x.answersAnew(0, -1, NONE, NONE));
        Check.due(ARGUMENT, () -> x.answersAnew(0, 9, 100, NONE));
        Check.due(ARGUMENT, () -> x.answersAnew(0, 9, -2, NONE));
        x.remove(3);
        Check.due(0, () -> x.answersAnew(0, 9, NONE, 3));
    }

    private static void scores() {
        Check.promise(29, "how often the words are there, and 10 for neighbours");
        SearchKeeper x = oneText(1, 2, 1, 1, 3, 2);
        Check.due(302, () -> x.answer(0, 1, NONE, 0));
        Check.due(202, () -> x.answer(0, 2, NONE, 0));
        Check.due(1502, () -> x.answer(0, 1, 2, 0));
        Check.due(1502, () -> x.answer(0, 2, 1, 0));
        Check.due(1402, () -> x.answer(0, 1, 3, 0));
        Check.due(402, () -> x.answer(0, 3, 1, 0));
        Check.due(1302, () -> x.answer(0, 3, 2, 0));

        Check.promise(29, "both the same");
        Check.due(1602, () -> x.answer(0, 1, 1, 0));
        Check.due(402, () -> x.answer(0, 2, 2, 0));
        Check.due(202, () -> x.answer(0, 3, 3, 0));
        int[] all = new int[20];
        SearchKeeper y = oneText(all);
        Check.due(5002, () -> y.answer(0, 0, 0, 0));
        Check.due(2002, () -> y.answer(0, 0, NONE, 0));
    }

    private static void ranks() {
        Check.promise(29, "by falling scores, of several by rising numbers");
        SearchKeeper x = new SearchKeeper();
        x.make(0, 'r', true);
        for (int i = 0; i < 5; i++) {
            x.make(1, (char) ('a' + i), false);
        }
        Given.fill(x, 2, 9);
        Given.fill(x, 3, 9, 9);
        Given.fill(x, 4, 9, 8);
        Given.fill(x, 5, 8, 9, 9);
        Given.fill(x, 6, 7);
        x.watch(1);
        x.work(500);
        Check.due(203, () -> x.answer(0, 9, NONE, 0));
        Check.due(205, () -> x.answer(0, 9, NONE, 1));
        Check.due(102, () -> x.answer(0, 9, NONE, 2));
        Check.due(104, () -> x.answer(0, 9, NONE, 3));
        Check.due(INDEX, () -> x.answer(0, 9, NONE, 4));
        Check.due(1204, () -> x.answer(0, 9, 8, 0));
        Check.due(305, () -> x.answer(0, 9, 8, 1));
        Check.due(INDEX, () -> x.answer(0, 9, 8, 2));
        Check.due(1305, () -> x.answer(0, 8, 9, 0));
        Check.due(204, () -> x.answer(0, 8, 9, 1));
        x.people(3, 2);
        Check.due(205, () -> x.answer(0, 9, NONE, 0));
        Check.due(203, () -> x.answer(1, 9, NONE, 0));
        x.remove(5);
        Check.due(102, () -> x.answer(0, 9, NONE, 0));
        Check.due(104, () -> x.answer(0, 9, NONE, 1));
        Check.due(INDEX, () -> x.answer(0, 9, NONE, 2));
    }

    private static void answerInputs() {
        Check.promise(29, "wrong inputs");
        SearchKeeper x = nested();
        Check.due(INDEX, () -> x.answer(-1, 9, NONE, 0));
        Check.due(INDEX, () -> x.answer(4, 9, NONE, 0));
        Check.due(INDEX, () -> x.answer(0, 9, NONE, -1));
        Check.due(INDEX, () -> x.answer(0, 9, NONE, 3));
        Check.due(INDEX, () -> x.answer(0, 9, NONE, Integer.MAX_VALUE));
        Check.due(INDEX, () -> x.answer(0, 9, NONE, Integer.MIN_VALUE));
        Check.due(INDEX, () -> x.answer(0, 1, NONE, 0));
        Check.due(INDEX, () -> x.answer(4, 100, NONE, 0));
        Check.due(ARGUMENT, () -> x.answer(0, 100, NONE, 0));
        Check.due(ARGUMENT, () -> x.answer(0, 100, NONE, -1));
        Check.due(ARGUMENT, () -> x.answer(0, -1, NONE, 0));
        Check.due(ARGUMENT, () -> x.answer(0, 9, 100, 99));
        Check.due(ARGUMENT, () -> x.answer(0, 9, -2, 0));
    }

    private static void closest() {
        Check.promise(30, "the least difference");
        SearchKeeper x = oneText(1, 5, 5, 2, 1, 5, 2);
        Check.due(403, () -> x.closest(0, 2, 1, 2));
        Check.due(304, () -> x.closest(0, 2, 2, 1));
        Check.due(1, () -> x.closest(0, 2, 1, 5));
        Check.due(100, () -> x.closest(0, 2, 5, 1));
        Check.due(203, () -> x.closest(0, 2, 5, 2));

        Check.promise(30, "the lesser place least, then the first word's place less");
        SearchKeeper y = oneText(7, 3, 7, 3, 4, 4, 7, 7);
        Check.due(1, () -> y.closest(0, 2, 7, 3));
        Check.due(100, () -> y.closest(0, 2, 3, 7));
        Check.due(405, () -> y.closest(0, 2, 4, 4));
        Check.due(607, () -> y.closest(0, 2, 7, 7));
        Check.due(103, () -> y.closest(0, 2, 3, 3));
        SearchKeeper z = oneText(6, 0, 8, 0, 6, 8);
        Check.due(405, () -> z.closest(0, 2, 6, 8));
        Check.due(504, () -> z.closest(0, 2, 8, 6));
        SearchKeeper w = oneText(8, 0, 6, 0, 8);
        Check.due(200, () -> w.closest(0, 2, 6, 8));
        Check.due(2, () -> w.closest(0, 2, 8, 6));

        Check.promise(30, "none with both at different places, or no entry");
        Check.due(NONE, () -> z.closest(0, 2, 6, 9));
        Check.due(NONE, () -> z.closest(0, 2, 9, 6));
        Check.due(NONE, () -> w.closest(0, 2, 6, 6));
        w.make(1, 'n', false);
        w.write(3, 1);
        w.write(3, 1);
        Check.due(NONE, () -> w.closest(0, 3, 1, 1));
        w.work(500);
        Check.due(1, () -> w.closest(0, 3, 1, 1));
        w.move(3, 0, 'n');
        w.work(500);
        Check.due(NONE, () -> w.closest(0, 3, 1, 1));

        Check.promise(30, "words of an edition before do not count");
        SearchKeeper old = oneText(1, 2, 2);
        old.empty(2);
        old.write(2, 1);
        old.work(500);
        Check.due(NONE, () -> old.closest(0, 2, 1, 2));
        Check.due(NONE, () -> old.closest(0, 2, 2, 1));
        Check.due(NONE, () -> old.closest(0, 2, 1, 1));
        Check.due(0, () -> old.answers(0, 2, NONE, NONE));
        Check.due(102, () -> old.answer(0, 1, NONE, 0));

        Check.promise(30, "in the entry, not in the file of now");
        w.empty(2);
        Check.due(200, () -> w.closest(0, 2, 6, 8));
        w.work(500);
        Check.due(NONE, () -> w.closest(0, 2, 6, 8));
    }

    private static void closestInputs() {
        Check.promise(30, "wrong inputs");
        SearchKeeper x = oneText(1, 2);
        Check.due(INDEX, () -> x.closest(-1, 2, 1, 2));
        Check.due(INDEX, () -> x.closest(4, 2, 1, 2));
        Check.due(INDEX, () -> x.closest(0, 1, 1, 2));
        Check.due(INDEX, () -> x.closest(0, 3, 1, 2));
        Check.due(INDEX, () -> x.closest(0, -1, 1, 2));
        Check.due(INDEX, () -> x.closest(0, 3, 100, 2));
        Check.due(ARGUMENT, () -> x.closest(0, 2, 100, 2));
        Check.due(ARGUMENT, () -> x.closest(0, 2, -1, 2));
        Check.due(ARGUMENT, () -> x.closest(0, 2, 1, 100));
        Check.due(ARGUMENT, () -> x.closest(0, 2, 1, NONE));
        x.people(1, 14);
        Check.due(INDEX, () -> x.closest(0, 2, 1, 2));
        Check.due(INDEX, () -> x.closest(0, 2, 100, 2));
        Check.due(1, () -> x.closest(1, 2, 1, 2));
        x.remove(2);
        Check.due(INDEX, () -> x.closest(1, 2, 1, 2));
    }
}
