/** Promises 15 to 24 at the edges, sentence by sentence of 'The keeper' in the document. */
public final class WorkEdgesTest {
    private static final long INDEX = Check.INDEX, ARGUMENT = Check.ARGUMENT, STATE = Check.STATE;
    private static final int NONE = SearchKeeper.NONE;
    private static final int OPEN = SearchKeeper.OPEN, CLOSE = SearchKeeper.CLOSE;

    public static void main(String[] args) {
        minutes();
        hundredThousandMinutes();
        batteryTells();
        twentySteps();
        stepsOfEachHour();
        stepsWithoutBattery();
        whatIsLeftOfTheHour();
        limitsInputs();
        limitOfDepth();
        limitOfWords();
        deepestAndMost();
        closeWithNothingOpen();
        neverClosed();
        entriesStayAsTheyAre();
        workInputs();
        fiveHundredSteps();
        ifStepsAreNotLeft();
        ifAllIsQuiet();
        noticesThenActsThenCrawls();
        theFirstRootOfThose();
        floodedNoMore();
        oneActForANode();
        lastAddedStands();
        dropOfAnEntry();
        dropInACircle();
        dropOfARoot();
        dropOfWhatIsBelowARoot();
        lookAtWhatIsGone();
        lookAtAFolder();
        lookAtALockedFile();
        putOffUntilTheWorkEnds();
        allPutOff();
        lookAtAFile();
        stepsForMarks();
        crawlOfTheRootAlone();
        crawlMeetsWhatIsBehind();
        crawlMeetsWhatIsBack();
        crawlPassesOver();
        crawlWaits();
        crawlEnds();
        crawlOfOtherRoots();
        crawlAnew();
        watchedNoMore();
        rootGone();
        actsAtTheEdges();
        quiet();
        entriesAtTheEdges();
        editionsAtTheEdges();
        staleFiles();
        staleEntries();
        Check.end("WorkEdgesTest");
    }

    /** A root 1 (r) with files 2 (f) and 3 (g), and a folder 4 (a) with a file 5 (h); all known. */
    private static SearchKeeper known() {
        return Given.worked(Given.house());
    }

    private static void crawledAndWorked(SearchKeeper x, int root) {
        x.crawl(root);
        x.work(500);
    }

    // ---- time, battery

    private static void minutes() {
        Check.promise(15, "1 to 1000");
        SearchKeeper x = new SearchKeeper();
        Check.due(ARGUMENT, () -> x.pass(0));
        Check.due(ARGUMENT, () -> x.pass(1001));
        Check.due(ARGUMENT, () -> x.pass(-1));
        Check.due(ARGUMENT, () -> x.pass(Integer.MAX_VALUE));
        Check.due(ARGUMENT, () -> x.pass(Integer.MIN_VALUE));
        Check.due(1, () -> x.pass(1));
        Check.due(1001, () -> x.pass(1000));
        Check.due(1002, () -> x.pass(1));
    }

    private static void hundredThousandMinutes() {
        Check.promise(15, "if it would be above 100000");
        SearchKeeper x = new SearchKeeper();
        for (int thousand = 1; thousand < 100; thousand++) {
            int each = thousand;
            Check.due(1000 * each, () -> x.pass(1000));
        }
        SearchKeeper y = new SearchKeeper();
        for (int thousand = 1; thousand <= 100; thousand++) {
            y.pass(1000);
        }
        Check.due(STATE, () -> y.pass(1));
        Check.due(STATE, () -> y.pass(1000));
        Check.due(ARGUMENT, () -> y.pass(1001));
        Check.due(ARGUMENT, () -> y.pass(0));
        Check.due(99001, () -> x.pass(1));
        Check.due(STATE, () -> x.pass(1000));
        Check.due(100000, () -> x.pass(999));
        Check.due(STATE, () -> x.pass(1));
    }

    private static void batteryTells() {
        Check.promise(16, "whether it was");
        SearchKeeper x = new SearchKeeper();
        Check.due(false, () -> x.battery(false));
        Check.due(false, () -> x.battery(true));
        Check.due(true, () -> x.battery(true));
        Check.due(true, () -> x.battery(false));
        Check.due(false, () -> x.battery(false));
    }

    /** A root 1 with nineteen folders, all known: each crawl of it takes 20 steps. */
    private static SearchKeeper twenty() {
        return Given.worked(Given.folders(19));
    }

    private static void twentySteps() {
        Check.promise(18, "on battery at most 20 steps are done in each hour");
        SearchKeeper x = twenty();
        x.battery(true);
        x.crawl(1);
        Check.due(19, () -> x.work(19));
        Check.due(1, () -> x.work(500));
        Check.due(true, x::isQuiet);
        x.crawl(1);
        Check.due(0, () -> x.work(1));
        Check.due(0, () -> x.work(500));
        Check.due(false, x::isQuiet);
        SearchKeeper y = twenty();
        y.battery(true);
        y.make(1, 'z', false);
        y.crawl(1);
        // The notice, the file, and 18 of 20 steps of the crawl.
        Check.due(20, () -> y.work(500));
        Check.due(0, () -> y.work(500));
        Check.due(1, () -> y.pass(1));
        Check.due(0, () -> y.work(500));
        y.pass(60);
        Check.due(2, () -> y.work(500));
    }

    private static void stepsOfEachHour() {
        Check.promise(18, "in each hour, which is the minute divided by 60, rounded down");
        SearchKeeper x = twenty();
        x.battery(true);
        for (int pass : new int[] {59, 1, 59, 1, 60, 119, 1, 1000}) {
            x.crawl(1);
            x.work(500);
            int minute = x.pass(pass);
            x.crawl(1);
            boolean isNewHour = minute / 60 != (minute - pass) / 60;
            Check.due(isNewHour ? 20 : 0, () -> x.work(500));
        }
        Check.promise(18, "what was not done in an hour is not done in the next one");
        SearchKeeper y = twenty();
        y.battery(true);
        y.pass(1000);
        y.crawl(1);
        Check.due(20, () -> y.work(500));
        y.crawl(1);
        Check.due(0, () -> y.work(500));
    }

    private static void stepsWithoutBattery() {
        Check.promise(18, "steps that were done in it without battery do not count");
        SearchKeeper x = twenty();
        x.crawl(1);
        Check.due(20, () -> x.work(500));
        x.battery(true);
        x.crawl(1);
        Check.due(5, () -> x.work(5));
        x.battery(false);
        Check.due(15, () -> x.work(500));
        x.crawl(1);
        Check.due(20, () -> x.work(500));
        Check.promise(18, "those on battery count, whatever was between");
        x.battery(true);
        x.crawl(1);
        Check.due(15, () -> x.work(500));
        Check.due(0, () -> x.work(500));
        x.battery(false);
        x.battery(true);
        Check.due(0, () -> x.work(500));
        x.battery(false);
        x.pass(60);
        x.crawl(1);
        Check.due(20, () -> x.work(500));
        x.battery(true);
        x.crawl(1);
        Check.due(20, () -> x.work(500));
    }

    private static void whatIsLeftOfTheHour() {
        Check.promise(18, "a text of 19 marks is read with 20 steps left");
        SearchKeeper x = new SearchKeeper();
        x.make(0, 'r', true);
        x.make(1, 'a', false);
        for (int mark = 0; mark < 19; mark++) {
            x.write(2, mark);
        }
        x.watch(1);
        x.battery(true);
        Check.due(1, () -> x.work(500));
        Check.due(1, x::acts);
        Check.due(0, () -> x.work(500));
        x.pass(60);
        Check.due(20, () -> x.work(500));
        Check.due(20, () -> x.edition(2));
        Check.promise(18, "one of 20 marks never");
        x.write(2, 19);
        x.pass(60);
        Check.due(1, () -> x.work(500));
        for (int hour = 0; hour < 3; hour++) {
            x.pass(60);
            Check.due(0, () -> x.work(500));
            Check.due(1, x::acts);
        }
        x.battery(false);
        Check.due(0, () -> x.work(20));
        Check.due(21, () -> x.work(21));
    }

    // ---- limits, taking words

    private static void limitsInputs() {
        Check.promise(17, "depth 0 to 3, words 1 to 20");
        SearchKeeper x = new SearchKeeper();
        Check.due(ARGUMENT, () -> x.limits(-1, 12));
        Check.due(ARGUMENT, () -> x.limits(4, 12));
        Check.due(ARGUMENT, () -> x.limits(2, 0));
        Check.due(ARGUMENT, () -> x.limits(2, 21));
        Check.due(ARGUMENT, () -> x.limits(-1, 0));
        Check.due(ARGUMENT, () -> x.limits(4, 21));
        Check.due(ARGUMENT, () -> x.limits(Integer.MAX_VALUE, Integer.MIN_VALUE));
        Check.due(12, () -> x.limits(0, 20));
        Check.due(20, () -> x.limits(3, 1));
        Check.due(1, () -> x.limits(3, 20));
        Check.due(20, () -> x.limits(0, 1));
        Check.due(1, () -> x.limits(2, 12));
        Check.due(12, () -> x.limits(2, 12));
    }

    /** As many words as are due, these ones, in this order, in the entry and read afresh. */
    private static void taken(SearchKeeper x, int... due) {
        int[] scores = new int[100];
        for (int word : due) {
            scores[word]++;
        }
        for (int word = 0; word < 10; word++) {
            int each = word;
            Check.due(scores[word] > 0 ? 1 : 0, () -> x.answersAnew(0, each, NONE, NONE));
            long first = scores[word] > 0 ? 100 * scores[word] + 2 : INDEX;
            Check.due(first, () -> x.answer(0, each, NONE, 0));
        }
        for (int place = 1; place < due.length; place++) {
            int first = due[place - 1];
            int second = due[place];
            int score = 10 + scores[first] + scores[second];
            Check.due(100 * score + 2, () -> x.answer(0, first, second, 0));
        }
    }

    private static final int[] NESTED = {1, OPEN, 2, OPEN, 3, OPEN, 4, OPEN, 5, CLOSE, 6, CLOSE, 7,
        CLOSE, 8, CLOSE, 9};

    private static void limitOfDepth() {
        Check.promise(18, "at most as deep as the limit of depth");
        taken(Given.text(0, 20, NESTED), 1, 9);
        taken(Given.text(1, 20, NESTED), 1, 2, 8, 9);
        taken(Given.text(2, 20, NESTED), 1, 2, 3, 7, 8, 9);
        taken(Given.text(3, 20, NESTED), 1, 2, 3, 4, 6, 7, 8, 9);
        Check.promise(18, "2 at first");
        SearchKeeper x = new SearchKeeper();
        x.make(0, 'r', true);
        x.make(1, 'a', false);
        Given.fill(x, 2, NESTED);
        x.watch(1);
        taken(Given.worked(x), 1, 2, 3, 7, 8, 9);
        Check.promise(18, "containers beside one another are not deeper");
        taken(Given.text(1, 20, OPEN, 1, CLOSE, OPEN, 2, CLOSE, OPEN, 3, CLOSE), 1, 2, 3);
        taken(Given.text(0, 20, OPEN, 1, CLOSE, OPEN, 2, CLOSE, 4), 4);
    }

    private static void limitOfWords() {
        Check.promise(18, "as fewer than the limit of words are taken");
        taken(Given.text(2, 1, 7, 8, 9), 7);
        taken(Given.text(2, 2, 7, 8, 9), 7, 8);
        taken(Given.text(2, 3, 7, 8, 9), 7, 8, 9);
        taken(Given.text(2, 4, 7, 8, 9), 7, 8, 9);
        Check.promise(18, "words that are too deep, and other marks, do not count");
        taken(Given.text(0, 2, OPEN, 1, 2, CLOSE, 7, OPEN, CLOSE, 8, 9), 7, 8);
        Check.promise(18, "each word counts, also if it is there already");
        taken(Given.text(0, 3, 7, 7, 7, 7, 8), 7, 7, 7);
        Check.promise(18, "12 at first");
        SearchKeeper x = new SearchKeeper();
        x.make(0, 'r', true);
        x.make(1, 'a', false);
        Given.fill(x, 2, 1, 1, 1, 1, 1, 1, 1, 1, 1, 1, 1, 2, 3);
        x.watch(1);
        taken(Given.worked(x), 1, 1, 1, 1, 1, 1, 1, 1, 1, 1, 1, 2);
    }

    private static void deepestAndMost() {
        Check.promise(18, "20 words of 20 marks");
        int[] marks = new int[20];
        for (int place = 0; place < 20; place++) {
            marks[place] = place / 2;
        }
        taken(Given.text(0, 20, marks), 0, 0, 1, 1, 2, 2, 3, 3, 4, 4, 5, 5, 6, 6, 7, 7, 8, 8, 9, 9);
        taken(Given.text(0, 19, marks), 0, 0, 1, 1, 2, 2, 3, 3, 4, 4, 5, 5, 6, 6, 7, 7, 8, 8, 9);
        Check.promise(18, "far deeper than the limit, and back again");
        int[] deep = new int[20];
        for (int place = 0; place < 10; place++) {
            deep[place] = OPEN;
            deep[19 - place] = CLOSE;
        }
        deep[9] = 5;
        deep[19] = 6;
        // Nine OPEN, 5, nine CLOSE, and 6, which is not deep at all.
        taken(Given.text(3, 20, deep), 6);
        Check.promise(18, "an empty text");
        taken(Given.text(3, 20));
    }

    private static void closeWithNothingOpen() {
        Check.promise(18, "a CLOSE with nothing open is passed over");
        taken(Given.text(0, 20, CLOSE, 1), 1);
        taken(Given.text(0, 20, CLOSE, CLOSE, OPEN, 1, CLOSE, 2), 2);
        taken(Given.text(1, 20, CLOSE, CLOSE, OPEN, OPEN, 1, CLOSE, 2, CLOSE, 3), 2, 3);
        taken(Given.text(0, 20, OPEN, CLOSE, CLOSE, OPEN, 1, CLOSE, 2, CLOSE), 2);
        taken(Given.text(0, 20, CLOSE, CLOSE, CLOSE));
    }

    private static void neverClosed() {
        Check.promise(18, "an OPEN that is never closed: nothing behind it is taken");
        taken(Given.text(3, 20, OPEN));
        taken(Given.text(3, 20, 1, OPEN), 1);
        taken(Given.text(3, 20, 1, OPEN, 2), 1);
        taken(Given.text(3, 20, 1, OPEN, 2, CLOSE), 1, 2);
        taken(Given.text(3, 20, 1, OPEN, 2, CLOSE, 3, OPEN, 4), 1, 2, 3);
        Check.promise(18, "a CLOSE closes the OPEN before it that is still open: the outer one is broken");
        taken(Given.text(3, 20, 1, OPEN, 2, OPEN, 3, CLOSE, 4), 1);
        taken(Given.text(3, 20, OPEN, 1, OPEN, 2, CLOSE, OPEN, 3, CLOSE, 4));
        taken(Given.text(3, 20, 1, OPEN, 2, CLOSE, OPEN, 3, OPEN, 4, CLOSE), 1, 2);
        Check.promise(18, "a CLOSE before it does not close it");
        taken(Given.text(3, 20, CLOSE, 1, OPEN, 2), 1);
        taken(Given.text(3, 20, 1, OPEN, CLOSE, CLOSE, 2, OPEN, 3), 1, 2);
        Check.promise(18, "also one that is deeper than the limit");
        taken(Given.text(0, 20, 1, OPEN, OPEN, 2, CLOSE, CLOSE, 3, OPEN, OPEN, CLOSE, 4), 1, 3);
        taken(Given.text(1, 20, 1, OPEN, 2, OPEN, OPEN, 3, CLOSE, 4, CLOSE, 5), 1);
    }

    private static void entriesStayAsTheyAre() {
        Check.promise(17, "entries stay as they are");
        SearchKeeper x = Given.text(2, 12, 1, OPEN, 2, CLOSE);
        x.limits(0, 1);
        crawledAndWorked(x, 1);
        x.move(2, 1, 'k');
        x.work(500);
        Check.due(1202, () -> x.answer(0, 1, 2, 0));
        Check.due(0, () -> x.answersAnew(0, 2, NONE, NONE));
        Check.due(0, x::stale);
        x.write(2, 3);
        x.work(500);
        Check.due(INDEX, () -> x.answer(0, 2, NONE, 0));
        Check.due(INDEX, () -> x.answer(0, 3, NONE, 0));
        Check.due(102, () -> x.answer(0, 1, NONE, 0));
    }

    // ---- steps

    private static void workInputs() {
        Check.promise(18, "1 to 500");
        SearchKeeper x = new SearchKeeper();
        for (boolean isOn : new boolean[] {false, true}) {
            x.battery(isOn);
            Check.due(ARGUMENT, () -> x.work(0));
            Check.due(ARGUMENT, () -> x.work(501));
            Check.due(ARGUMENT, () -> x.work(-1));
            Check.due(ARGUMENT, () -> x.work(Integer.MAX_VALUE));
            Check.due(ARGUMENT, () -> x.work(Integer.MIN_VALUE));
            Check.due(0, () -> x.work(1));
            Check.due(0, () -> x.work(500));
        }
    }

    private static void fiveHundredSteps() {
        Check.promise(18, "500 steps in one work");
        SearchKeeper x = new SearchKeeper();
        x.make(0, 'r', true);
        for (int file = 2; file < 27; file++) {
            x.make(1, (char) ('a' + file - 2), false);
        }
        // 23 files of 20 marks, one of 15: 1 for the crawl, 23 times 21, and 16. One is left.
        for (int file = 2; file < 26; file++) {
            for (int mark = 0; mark < (file < 25 ? 20 : 15); mark++) {
                x.write(file, mark);
            }
        }
        x.watch(1);
        Check.due(500, () -> x.work(500));
        Check.due(1, x::acts);
        Check.due(16, () -> x.edition(25));
        Check.due(NONE, () -> x.edition(26));
        Check.due(1, () -> x.work(500));
    }

    private static void ifStepsAreNotLeft() {
        Check.promise(18, "if there are not steps left for it, nothing of it is done, and the work ends");
        SearchKeeper x = Given.files(2);
        Given.fill(x, 2, 1, 2, 3);
        // Four notices and the crawl's LOOKs; 4 steps for file 2, 1 for file 3.
        x.lose(1, 8);
        Check.due(1, () -> x.work(1));
        Check.due(2, x::acts);
        for (int steps = 1; steps < 4; steps++) {
            int each = steps;
            Check.due(0, () -> x.work(each));
            Check.due(2, x::acts);
            Check.due(0, x::entries);
            Check.due(NONE, () -> x.edition(3));
            Check.due(0, x::segments);
        }
        Check.due(4, () -> x.work(4));
        Check.due(4, () -> x.edition(2));
        Check.due(NONE, () -> x.edition(3));
        Check.due(1, x::acts);
        Check.due(1, () -> x.work(1));
        Check.promise(18, "what is done before it stays done");
        x.move(3, 1, 'k');
        x.write(2, 4);
        Check.due(2, () -> x.work(2));
        Check.due(1, () -> x.work(5));
        Check.due(1, x::stale);
        Check.due(5, () -> x.work(5));
        Check.due(0, x::stale);
    }

    private static void ifAllIsQuiet() {
        Check.promise(18, "if there is nothing to be done, all is quiet, and it ends");
        SearchKeeper x = Given.files(0);
        Check.due(1, () -> x.work(500));
        Check.due(true, x::isQuiet);
        Check.due(0, () -> x.work(500));
        Check.due(0, () -> x.work(1));
        SearchKeeper y = new SearchKeeper();
        y.make(0, 'f', false);
        Check.due(0, () -> y.work(500));
    }

    private static void noticesThenActsThenCrawls() {
        Check.promise(18, "1. notices, 2. otherwise acts, 3. otherwise a crawl");
        SearchKeeper x = known();
        x.make(4, 'k', false);
        x.lose(1, 1);
        x.crawl(1);
        Check.due(1, () -> x.work(1));
        x.empty(2);
        x.empty(3);
        Check.due(1, () -> x.work(1));
        Check.due(1, x::acts);
        Check.due(1, () -> x.work(1));
        Check.due(2, x::acts);
        Check.due(0, () -> x.notices(1));
        Check.due(1, () -> x.work(1));
        Check.due(1, x::acts);
        x.empty(2);
        Check.due(1, () -> x.work(1));
        Check.due(2, x::acts);
        Check.due(2, () -> x.work(2));
        Check.due(0, x::acts);
        Check.due(NONE, () -> x.edition(6));
        Check.due(false, x::isQuiet);
        Check.due(2, () -> x.work(500));
        Check.due(1, () -> x.edition(6));
    }

    private static void theFirstRootOfThose() {
        Check.promise(18, "the first one of those in the order in which they were watched");
        SearchKeeper x = new SearchKeeper();
        for (int root = 1; root < 4; root++) {
            x.make(0, (char) ('a' + root), true);
        }
        x.make(1, 'f', false);
        x.make(2, 'f', false);
        x.make(3, 'f', false);
        x.watch(3);
        x.watch(1);
        x.watch(2);
        Given.worked(x);
        x.empty(5);
        x.empty(4);
        Given.flood(x, 6);
        Check.due(1, () -> x.work(1));
        Check.due(0, () -> x.notices(3));
        Check.due(1, () -> x.work(1));
        Check.due(0, () -> x.notices(1));
        Check.due(1, () -> x.notices(2));
        x.empty(6);
        Check.due(1, () -> x.work(1));
        Check.due(0, () -> x.notices(3));
        Check.due(1, () -> x.notices(2));
        Check.due(1, () -> x.work(1));
        Check.due(0, () -> x.notices(2));
        // 4, 6, 5, and the crawl of 3, whose end looks at 4 and 5.
        Check.due(6, () -> x.work(500));
        Check.promise(18, "that of the first root in the order in which they were watched");
        x.crawl(2);
        x.crawl(1);
        Check.due(3, () -> x.crawl(3));
        Check.due(1, () -> x.work(1));
        // The crawl of 3 is at its end: it met 6, not 4 and 5.
        Check.due(2, x::acts);
        Check.due(2, () -> x.crawl(1));
        Check.due(2, () -> x.work(2));
        Check.due(1, () -> x.work(1));
        Check.due(2, x::acts);
        Check.due(1, () -> x.crawl(2));
        Check.due(2, () -> x.work(2));
        Check.due(1, () -> x.work(1));
        Check.due(2, x::acts);
        Check.due(1, () -> x.crawl(3));
    }

    private static void floodedNoMore() {
        Check.promise(18, "if it is flooded, it is not any more, and its crawl begins anew; 1 step");
        SearchKeeper x = known();
        x.crawl(1);
        Check.due(1, () -> x.work(1));
        Given.flood(x, 2);
        Check.due(NONE, () -> x.notices(1));
        Check.due(1, () -> x.work(1));
        Check.due(0, () -> x.notices(1));
        Check.due(0, x::acts);
        Check.due(false, x::isQuiet);
        // The root again, the file 2, and the folder 4.
        Check.due(1, () -> x.work(1));
        Check.due(1, x::acts);
        Check.due(2, () -> x.work(500));
        Check.due(10, () -> x.edition(2));
        Check.due(true, x::isQuiet);
    }

    // ---- acts

    private static void oneActForANode() {
        Check.promise(20, "to add an act for a node that has one: it stays at its place");
        SearchKeeper x = Given.worked(Given.files(3));
        x.empty(4);
        x.empty(2);
        x.empty(3);
        x.empty(4);
        x.empty(4);
        Check.due(5, () -> x.work(5));
        Check.due(3, x::acts);
        Check.due(1, () -> x.work(1));
        Check.due(4, () -> x.edition(4));
        Check.due(1, () -> x.edition(2));
        Check.due(2, x::acts);
        Check.due(1, () -> x.work(1));
        Check.due(2, () -> x.edition(2));
        Check.due(1, () -> x.work(500));
    }

    private static void lastAddedStands() {
        Check.promise(20, "and is what was added last: a DROP behind a LOOK");
        SearchKeeper x = Given.worked(Given.files(1));
        x.empty(2);
        Check.due(1, () -> x.work(1));
        x.move(2, 0, 'a');
        Check.due(1, () -> x.work(1));
        Check.due(1, x::acts);
        x.move(2, 1, 'a');
        x.lose(1, 1);
        // The DROP finds the node below the root, and is a LOOK, which reads nothing new but 2.
        Check.due(2, () -> x.work(500));
        Check.due(2, () -> x.edition(2));
        Check.promise(20, "a LOOK behind a DROP");
        x.move(2, 0, 'a');
        Check.due(1, () -> x.work(1));
        x.move(2, 1, 'a');
        Check.due(1, () -> x.work(1));
        Check.due(1, x::acts);
        Check.due(1, () -> x.work(500));
        Check.due(1, x::entries);
    }

    private static void dropOfAnEntry() {
        Check.promise(18, "DROP: the entry, and those of all that lie below it, as the keeper knows it");
        SearchKeeper x = known();
        x.make(4, 'b', true);
        x.make(6, 'k', false);
        Given.worked(x);
        Check.due(6, x::entries);
        x.move(5, 1, 'h');
        x.lose(1, 1);
        x.move(2, 4, 'f');
        x.lose(1, 1);
        x.remove(4);
        // 5 goes with 4, as it lay there; 2 stays, as it did not.
        Check.due(2, () -> x.work(500));
        Check.due(2, x::entries);
        Check.due(1, () -> x.edition(2));
        Check.due(1, () -> x.edition(3));
        Check.due(NONE, () -> x.edition(5));
        Check.due(NONE, () -> x.edition(7));
        Check.promise(18, "a DROP for a node without an entry takes a step, too");
        SearchKeeper y = known();
        y.make(1, 'k', false);
        y.remove(6);
        Check.due(2, () -> y.work(2));
        Check.due(1, y::acts);
        Check.due(1, () -> y.work(500));
        Check.due(4, y::entries);
        Check.promise(18, "ways lead over entries alone");
        SearchKeeper z = known();
        z.make(4, 'b', true);
        z.make(6, 'k', false);
        Given.worked(z);
        // The entry of 6 goes alone while 7 is elsewhere; then 7 lies in it, as the keeper knows.
        z.move(7, 1, 'k');
        Given.worked(z);
        z.remove(6);
        z.lose(1, 1);
        Check.due(6, z::entries);
        z.remove(4);
        Check.due(2, () -> z.work(500));
        Check.due(3, z::entries);
        Check.due(1, () -> z.edition(7));
    }

    /** The folders 2 and 3 lie in one another, as the keeper knows it, and the file 4 in 3. */
    private static SearchKeeper circle() {
        SearchKeeper x = new SearchKeeper();
        x.make(0, 'r', true);
        x.make(1, 'a', true);
        x.make(2, 'b', true);
        x.make(3, 'f', false);
        x.write(4, 9);
        x.watch(1);
        Given.worked(x);
        x.move(3, 1, 'b');
        x.lose(1, 1);
        x.move(2, 3, 'a');
        Check.due(2, () -> x.work(2));
        return x;
    }

    private static void dropInACircle() {
        Check.promise(18, "ways over entries that lead in a circle end");
        SearchKeeper x = circle();
        Check.due(1, () -> x.answers(0, 9, NONE, 2));
        Check.due(1, () -> x.answers(0, 9, NONE, 3));
        Check.due(0, () -> x.answers(0, 9, NONE, 1));
        Check.due(0, () -> x.answers(0, 9, NONE, 4));
        Check.due(1, () -> x.answers(0, 9, NONE, NONE));
        Check.due(0, x::stale);
        x.move(2, 0, 'a');
        Check.due(2, () -> x.work(2));
        Check.due(0, x::entries);
        SearchKeeper y = circle();
        Check.due(3, () -> y.remove(3));
        Check.due(3, y::stale);
        Check.due(2, () -> y.work(500));
        Check.due(0, y::entries);
        Check.promise(18, "and a crawl mends them");
        SearchKeeper z = circle();
        z.crawl(1);
        Given.worked(z);
        Check.due(1, () -> z.answers(0, 9, NONE, 1));
        Check.due(1, () -> z.answers(0, 9, NONE, 3));
        Check.due(0, () -> z.answers(0, 9, NONE, 2));
    }

    private static void dropOfARoot() {
        Check.promise(18, "unless it is a root, those of all nodes that lie below it");
        SearchKeeper x = known();
        x.watch(1);
        Check.due(4, x::acts);
        x.watch(4);
        Check.due(3, () -> x.work(3));
        Check.due(1, x::entries);
        Check.due(1, () -> x.edition(5));
        Check.due(NONE, () -> x.edition(4));
        Check.promise(18, "what was a root, and is none, takes all with it");
        SearchKeeper y = known();
        y.watch(1);
        Check.due(3, () -> y.work(3));
        Check.due(0, y::entries);
        Check.due(1, y::acts);
        Check.promise(18, "ways end at roots");
        SearchKeeper z = known();
        z.make(4, 'b', true);
        z.make(6, 'k', false);
        Given.worked(z);
        z.watch(1);
        z.watch(6);
        // 2, 3 and 4: with 4 go 5 and 6, which lie in it, but not 7, which lies in a root.
        Check.due(3, () -> z.work(3));
        Check.due(1, z::entries);
        Check.due(1, () -> z.edition(7));
    }

    private static void dropOfWhatIsBelowARoot() {
        Check.promise(18, "if the node is below a root now, it is a LOOK instead, at the end, nothing goes");
        SearchKeeper x = known();
        x.move(4, 0, 'a');
        x.move(4, 1, 'a');
        x.lose(1, 1);
        x.empty(2);
        x.empty(3);
        Check.due(3, () -> x.work(3));
        Check.due(3, x::acts);
        Check.due(1, () -> x.work(1));
        Check.due(3, x::acts);
        Check.due(4, x::entries);
        Check.due(1, () -> x.work(1));
        Check.due(2, () -> x.edition(2));
        Check.due(1, () -> x.work(1));
        Check.due(2, () -> x.edition(3));
        Check.due(1, x::acts);
        Check.due(2, () -> x.work(500));
        Check.due(4, x::entries);
        Check.promise(18, "below another root, too");
        SearchKeeper y = known();
        y.make(0, 's', true);
        y.watch(6);
        Given.worked(y);
        y.move(2, 6, 'f');
        y.lose(6, 1);
        Check.due(3, () -> y.work(500));
        Check.due(4, y::entries);
        Check.due(0, y::stale);
    }

    private static void lookAtWhatIsGone() {
        Check.promise(18, "LOOK at a node that is gone, or below no root: the same as DROP");
        SearchKeeper x = known();
        x.move(4, 1, 'b');
        x.remove(4);
        x.lose(1, 1);
        Check.due(2, () -> x.work(500));
        Check.due(2, x::entries);
        SearchKeeper y = known();
        y.move(4, 1, 'b');
        y.move(4, 0, 'b');
        y.lose(1, 1);
        Check.due(2, () -> y.work(500));
        Check.due(2, y::entries);
        Check.promise(18, "also if it is locked");
        SearchKeeper z = known();
        z.empty(2);
        z.move(2, 0, 'f');
        z.lose(1, 1);
        z.lock(2, true);
        Check.due(2, () -> z.work(500));
        Check.due(NONE, () -> z.edition(2));
        Check.due(true, z::isQuiet);
        Check.promise(18, "a root itself is below no root");
        SearchKeeper w = known();
        w.watch(1);
        w.watch(4);
        Check.due(4, w::acts);
        Check.due(5, () -> w.work(500));
        Check.due(NONE, () -> w.edition(4));
        Check.due(1, () -> w.edition(5));
        Check.due(0, w::stale);
    }

    private static void lookAtAFolder() {
        Check.promise(18, "LOOK at a folder: a LOOK for each node that lies in it, by rising numbers");
        SearchKeeper x = Given.worked(Given.files(0));
        x.make(0, 'k', true);
        x.make(2, 'z', false);
        x.make(2, 'y', true);
        x.make(2, 'x', false);
        x.make(4, 'w', false);
        x.move(2, 1, 'k');
        Check.due(2, () -> x.work(2));
        Check.due(3, x::acts);
        Check.due(1, x::entries);
        Check.due(0, () -> x.edition(2));
        Check.due(1, () -> x.work(1));
        Check.due(1, () -> x.edition(3));
        Check.due(1, () -> x.work(1));
        Check.due(0, () -> x.edition(4));
        Check.due(2, x::acts);
        Check.due(1, () -> x.work(1));
        Check.due(1, () -> x.edition(5));
        Check.due(NONE, () -> x.edition(6));
        Check.due(1, () -> x.work(500));
        Check.promise(18, "its entry gets its parent and name");
        x.move(4, 1, 'v');
        Check.due(2, () -> x.work(2));
        Check.due(1, x::acts);
        x.crawl(1);
        Check.due(1, () -> x.work(1));
        // The root, 2 and 4: nothing is behind.
        Check.due(3, () -> x.work(500));
        Check.promise(18, "an empty folder takes 1 step");
        x.make(1, 'u', true);
        Check.due(2, () -> x.work(500));
    }

    private static void lookAtALockedFile() {
        Check.promise(18, "LOOK at a file that is locked takes 1 step, and no more is done");
        SearchKeeper x = Given.files(1);
        Given.fill(x, 2, 1, 2, 3);
        x.lock(2, true);
        // Three notices, the file that is put off, and the crawl.
        Check.due(5, () -> x.work(500));
        Check.due(0, x::entries);
        Check.due(1, x::acts);
        Check.due(1, x::stale);
        Check.promise(18, "also if its edition is that of the entry");
        SearchKeeper y = known();
        y.lock(2, true);
        y.move(2, 1, 'k');
        Check.due(2, () -> y.work(500));
        Check.due(1, y::stale);
        Check.due(1, y::acts);
        Check.due(1, () -> y.work(500));
        y.lock(2, false);
        Check.due(1, () -> y.work(500));
        Check.due(0, y::stale);
        Check.due(true, y::isQuiet);
    }

    private static void putOffUntilTheWorkEnds() {
        Check.promise(18, "put off, at the end of the acts");
        SearchKeeper x = Given.worked(Given.files(3));
        x.empty(2);
        x.empty(3);
        x.empty(4);
        x.lock(2, true);
        Check.due(4, () -> x.work(4));
        x.lock(2, false);
        Check.due(1, () -> x.work(1));
        Check.due(2, () -> x.edition(3));
        Check.due(1, () -> x.work(1));
        Check.due(2, () -> x.edition(4));
        Check.due(1, () -> x.edition(2));
        Check.due(1, () -> x.work(1));
        Check.due(2, () -> x.edition(2));
        Check.promise(18, "until the work that is going on ends, whatever is added for it meanwhile");
        SearchKeeper y = known();
        y.empty(5);
        y.lock(5, true);
        y.crawl(1);
        // The notice, 5, and two folders that are crawled; the second one adds a LOOK for 5.
        Check.due(4, () -> y.work(500));
        Check.due(1, y::acts);
        y.move(4, 1, 'b');
        // 5 comes first, and is put off; then the notice's 4, which adds a LOOK for 5.
        Check.due(3, () -> y.work(500));
        Check.due(1, y::acts);
        Check.due(1, () -> y.work(500));
        y.lock(5, false);
        Check.due(1, () -> y.work(500));
        Check.due(0, y::stale);
        Check.promise(18, "at the end of the acts then: what is added after that comes behind it");
        SearchKeeper w = known();
        w.lock(2, true);
        w.empty(5);
        w.make(4, 'k', false);
        w.lose(1, 2);
        w.move(2, 1, 'x');
        w.crawl(1);
        // The notice, 2, the crawls of 1 and of 4, which adds 5 and 6: only the first one is done.
        Check.due(5, () -> w.work(5));
        Check.due(2, w::acts);
        Check.due(2, () -> w.edition(5));
        Check.due(NONE, () -> w.edition(6));
        w.lock(2, false);
        Check.due(2, w::stale);
        Check.due(1, () -> w.work(1));
        Check.due(1, w::acts);
        Check.due(NONE, () -> w.edition(6));
        Check.due(1, () -> w.work(500));
        Check.due(0, w::stale);
        Check.promise(18, "one step left: it is put off, and the work ends");
        y.lock(5, true);
        y.empty(2);
        y.lock(2, true);
        y.move(5, 4, 'x');
        Check.due(3, () -> y.work(3));
        Check.due(2, y::acts);
        Check.due(1, () -> y.work(1));
        Check.due(2, () -> y.work(2));
    }

    private static void allPutOff() {
        Check.promise(18, "59 acts, all of them put off");
        SearchKeeper x = new SearchKeeper();
        x.make(0, 'x', true);
        x.make(0, 'y', true);
        for (int node = 3; node < 60; node++) {
            x.make(node % 3, (char) ('a' + node / 3), false);
            x.lock(node, true);
        }
        x.watch(0);
        // The crawl of 0, its looks, the folders 1 and 2 with theirs, and the crawls of these.
        x.work(500);
        Check.due(2, x::entries);
        Check.due(57, x::acts);
        Check.due(57, () -> x.work(500));
        Check.due(57, x::acts);
        Check.due(20, () -> x.work(20));
        Check.due(57, x::acts);
        Check.due(57, x::stale);
        for (int node = 3; node < 60; node++) {
            x.lock(node, false);
        }
        Check.due(57, () -> x.work(500));
        Check.due(59, x::entries);
        Check.due(true, x::isQuiet);
        x.watch(0);
        Check.due(59, x::acts);
        Check.due(59, () -> x.work(500));
        Check.due(0, x::entries);
    }

    private static void lookAtAFile() {
        Check.promise(18, "of which there is an entry with its edition: its parent and name, 1 step");
        SearchKeeper x = Given.text(2, 12, 1, 2, 3, 4, 5);
        x.make(1, 'k', true);
        Given.worked(x);
        x.move(2, 3, 'z');
        Check.due(0, () -> x.answers(0, 1, NONE, 3));
        Check.due(2, () -> x.work(500));
        Check.due(1, () -> x.answers(0, 1, NONE, 3));
        Check.due(0, x::stale);
        Check.due(1, x::segments);
        Check.due(0, x::dead);
        Check.promise(18, "otherwise also its edition, and the words taken from it");
        x.write(2, 6);
        x.move(2, 1, 'z');
        Check.due(0, () -> x.answers(0, 6, NONE, NONE));
        Check.due(2 + 7, () -> x.work(500));
        Check.due(1, () -> x.answers(0, 6, NONE, 1));
        Check.due(0, () -> x.answers(0, 1, NONE, 3));
        Check.due(7, () -> x.edition(2));
        Check.due(0, x::stale);
        Check.promise(18, "as it is when it is looked at, not when it was told");
        x.write(2, 7);
        Check.due(1, () -> x.work(1));
        x.write(2, 8);
        Check.due(1 + 9, () -> x.work(500));
        Check.due(9, () -> x.edition(2));
        Check.due(true, x::isQuiet);
    }

    private static void stepsForMarks() {
        Check.promise(18, "1 step and 1 for each mark of its text, 0 to 20, whatever the limits");
        for (int marks = 0; marks <= 20; marks++) {
            SearchKeeper x = Given.files(1);
            x.limits(0, 1);
            x.lose(1, 8);
            for (int mark = 0; mark < marks; mark++) {
                x.write(2, mark % 2 == 0 ? OPEN : 5);
                x.lose(1, 1);
            }
            Check.due(1, () -> x.work(1));
            int each = marks;
            if (marks > 0) {
                Check.due(0, () -> x.work(each));
            }
            Check.due(1 + each, () -> x.work(1 + each));
            Check.due(1 + each, () -> x.edition(2));
        }
    }

    // ---- crawls

    private static void crawlOfTheRootAlone() {
        Check.promise(19, "at first that is the root alone: 1 step");
        SearchKeeper x = Given.files(0);
        Check.due(1, () -> x.work(500));
        Check.due(1, () -> x.crawl(1));
        Check.due(1, () -> x.crawl(1));
        Check.due(1, () -> x.work(500));
        Check.due(true, x::isQuiet);
        Check.promise(19, "the root itself gets no entry");
        Check.due(0, x::entries);
        Check.promise(19, "how many crawls go on then: 1 to 3");
        x.make(0, 's', true);
        x.make(0, 't', true);
        x.watch(2);
        x.watch(3);
        Check.due(2, () -> x.crawl(2));
        Check.due(3, () -> x.crawl(1));
        Check.due(3, () -> x.crawl(3));
        Check.due(1, () -> x.work(1));
        Check.due(2, () -> x.crawl(2));
        Check.due(2, () -> x.watch(3));
        Check.due(1, () -> x.crawl(2));
    }

    private static void crawlMeetsWhatIsBehind() {
        Check.promise(18, "if there is no entry: a file, a folder");
        SearchKeeper x = known();
        x.make(1, 'x', false);
        x.make(1, 'y', true);
        x.lose(1, 2);
        x.crawl(1);
        Check.due(1, () -> x.work(1));
        Check.due(2, x::acts);
        Given.worked(x);
        Check.promise(18, "or the parent of the entry is not that of the node: a file, a folder");
        x.move(2, 7, 'f');
        x.move(4, 7, 'a');
        x.lose(1, 2);
        x.crawl(1);
        Check.due(1, () -> x.work(1));
        Check.due(0, x::acts);
        Check.due(1, () -> x.work(1));
        Check.due(2, x::acts);
        Given.worked(x);
        Check.promise(18, "or the name: a file, a folder");
        x.move(3, 1, 'q');
        x.move(7, 1, 'r');
        x.lose(1, 2);
        x.crawl(1);
        Check.due(1, () -> x.work(1));
        Check.due(2, x::acts);
        Given.worked(x);
        Check.promise(18, "or it is a file whose edition is not that of the entry");
        x.empty(3);
        x.lose(1, 1);
        x.crawl(1);
        Check.due(1, () -> x.work(1));
        Check.due(1, x::acts);
        Given.worked(x);
        Check.promise(18, "otherwise none is added");
        x.lock(3, true);
        x.people(3, 0);
        x.crawl(1);
        Check.due(3, () -> x.work(500));
        Check.due(0, x::acts);
        Check.promise(18, "by rising numbers, whatever the names");
        SearchKeeper y = Given.files(0);
        y.make(1, 'c', false);
        y.make(1, 'b', false);
        y.make(1, 'a', false);
        y.lose(1, 3);
        Check.due(2, () -> y.work(2));
        Check.due(1, () -> y.edition(2));
        Check.due(NONE, () -> y.edition(4));
        Check.due(1, () -> y.work(1));
        Check.due(1, () -> y.edition(3));
    }

    private static void crawlMeetsWhatIsBack() {
        Check.promise(18, "if there is no entry: also of what had one, and is back where it was");
        SearchKeeper x = known();
        x.move(2, 0, 'f');
        x.move(4, 0, 'a');
        Given.worked(x);
        Check.due(1, x::entries);
        x.move(2, 1, 'f');
        x.move(4, 1, 'a');
        x.lose(1, 2);
        Check.due(2, x::stale);
        Check.due(NONE, () -> x.edition(2));
        x.crawl(1);
        Check.due(1, () -> x.work(1));
        Check.due(2, x::acts);
        Given.worked(x);
        Check.due(4, x::entries);
        Check.due(0, x::stale);
        Check.promise(18, "its text is read anew, also if the edition is the same");
        Check.due(2, x::segments);
    }

    /** A root 1 with the folders 2, 3 and 4, each with a file (5, 6, 7); the crawl has met 2 to 4. */
    private static SearchKeeper met() {
        SearchKeeper x = new SearchKeeper();
        x.make(0, 'r', true);
        x.make(1, 'a', true);
        x.make(1, 'b', true);
        x.make(1, 'c', true);
        x.make(2, 'f', false);
        x.make(3, 'f', false);
        x.make(4, 'f', false);
        x.watch(1);
        Given.worked(x);
        x.crawl(1);
        Check.due(1, () -> x.work(1));
        Check.due(0, x::acts);
        return x;
    }

    private static void crawlPassesOver() {
        Check.promise(18, "if it is not gone: a step, and nothing is met in it");
        SearchKeeper x = met();
        x.remove(2);
        x.lose(1, 1);
        Check.due(1, () -> x.work(1));
        Check.due(0, x::acts);
        // 3 and 4; 5 was not met, 2 was.
        Check.due(2, () -> x.work(2));
        Check.due(1, x::acts);
        Check.due(1, () -> x.work(500));
        Check.due(5, x::entries);
        Check.due(0, () -> x.edition(2));
        Check.due(1, x::stale);
        Check.promise(18, "and still below the root: what went elsewhere is passed over");
        SearchKeeper y = met();
        y.move(2, 0, 'a');
        y.lose(1, 1);
        y.empty(5);
        Check.due(1, () -> y.work(1));
        Check.due(0, y::acts);
        Check.due(2, () -> y.work(2));
        Check.due(1, y::acts);
        Check.due(1, () -> y.work(500));
        Check.due(NONE, () -> y.edition(5));
        Check.promise(18, "below another root: passed over, too");
        SearchKeeper z = met();
        z.make(0, 's', true);
        z.watch(8);
        z.move(2, 8, 'a');
        z.lose(1, 1);
        z.lose(8, 1);
        z.empty(5);
        z.lose(8, 1);
        Check.due(1, () -> z.work(1));
        Check.due(0, z::acts);
        Check.promise(18, "still below the root, elsewhere: met there");
        SearchKeeper w = met();
        w.move(2, 4, 'a');
        w.lose(1, 1);
        w.empty(5);
        w.lose(1, 1);
        Check.due(1, () -> w.work(1));
        Check.due(1, w::acts);
    }

    private static void crawlWaits() {
        Check.promise(18, "if it is a folder that does not wait already, it waits, behind the others");
        SearchKeeper x = met();
        x.move(4, 2, 'c');
        x.lose(1, 1);
        // 2, with looks at 4 and at 7 in it, then 3, then 4, which waited already: once.
        Check.due(3, () -> x.work(3));
        Check.due(0, x::acts);
        Check.due(2, () -> x.work(2));
        Check.due(true, x::isQuiet);
        SearchKeeper y = met();
        y.make(2, 'k', true);
        y.lose(1, 1);
        y.empty(6);
        y.lose(1, 1);
        y.empty(7);
        y.lose(1, 1);
        // 2, which has 8, and the look at 8; then 3 and 6, then 4 and 7, and 8 behind them.
        Check.due(2, () -> y.work(2));
        Check.due(0, () -> y.edition(8));
        Check.due(2, () -> y.work(2));
        Check.due(2, () -> y.edition(6));
        Check.due(2, () -> y.work(2));
        Check.due(2, () -> y.edition(7));
        Check.due(false, y::isQuiet);
        Check.due(1, () -> y.work(500));
        Check.promise(18, "one that waited, was taken, and is met again, waits again");
        SearchKeeper z = met();
        Check.due(1, () -> z.work(1));
        z.move(2, 4, 'a');
        z.lose(1, 1);
        // 3, 4, the looks at 2 and at 5 in it, and 2 once more.
        Check.due(5, () -> z.work(500));
        Check.due(true, z::isQuiet);
    }

    private static void crawlEnds() {
        Check.promise(18, "for each entry, by rising numbers, that was not met in it, a LOOK is added");
        SearchKeeper x = known();
        Given.remove(x, 2, 3, 4);
        x.lose(1, 3);
        Check.due(4, x::stale);
        x.crawl(1);
        Check.due(1, () -> x.work(1));
        Check.due(4, x::acts);
        Check.due(1, () -> x.work(1));
        Check.due(3, x::entries);
        Check.due(NONE, () -> x.edition(2));
        Check.due(1, () -> x.work(1));
        Check.due(NONE, () -> x.edition(3));
        // The look at 4 takes 5 with it.
        Check.due(1, () -> x.work(1));
        Check.due(0, x::entries);
        Check.due(1, x::acts);
        Check.due(1, () -> x.work(500));
        Check.promise(18, "what was met in it is not looked at, even if it went since");
        SearchKeeper y = met();
        y.remove(3);
        y.lose(1, 1);
        Check.due(3, () -> y.work(3));
        Check.due(1, y::acts);
        Check.due(1, () -> y.work(500));
        Check.due(0, () -> y.edition(3));
        Check.due(1, y::stale);
        crawledAndWorked(y, 1);
        Check.due(0, y::stale);
        Check.promise(18, "what was met in a crawl before was not met in it");
        SearchKeeper z = Given.worked(Given.files(1));
        crawledAndWorked(z, 1);
        z.remove(2);
        z.lose(1, 1);
        crawledAndWorked(z, 1);
        Check.due(0, z::entries);
        Check.promise(18, "if no folder waits any more: also if the last one is gone");
        SearchKeeper w = Given.worked(Given.folders(1));
        w.crawl(1);
        w.work(1);
        w.remove(2);
        w.lose(1, 1);
        Check.due(1, () -> w.work(500));
        Check.due(true, w::isQuiet);
    }

    private static void crawlOfOtherRoots() {
        Check.promise(18, "for each entry: those below other roots, too, which takes a step each");
        SearchKeeper x = known();
        x.make(0, 's', true);
        x.make(6, 'f', false);
        x.watch(6);
        Check.due(1, () -> x.work(1));
        // 7 is met; 2, 3, 4 and 5 are not.
        Check.due(5, x::acts);
        Check.due(5, () -> x.work(500));
        Check.due(5, x::entries);
        Check.due(0, x::stale);
        Check.due(1, () -> x.crawl(1));
        Check.due(2, () -> x.work(2));
        Check.due(1, x::acts);
    }

    private static void crawlAnew() {
        Check.promise(19, "begins the crawl of a root anew: nothing was met, the root alone waits");
        SearchKeeper x = met();
        x.remove(3);
        x.lose(1, 1);
        Check.due(1, () -> x.crawl(1));
        // The root, 2, and 4: 3 and 6 were not met in it.
        Check.due(3, () -> x.work(3));
        Check.due(2, x::acts);
        Check.due(2, () -> x.work(500));
        Check.due(4, x::entries);
        Check.promise(19, "in the midst of it");
        SearchKeeper y = met();
        Check.due(2, () -> y.work(2));
        Check.due(1, () -> y.crawl(1));
        Check.due(4, () -> y.work(500));
        Check.promise(19, "begun and begun again: the root waits once, the folder 0, too");
        for (int root = 0; root < 2; root++) {
            int each = root;
            SearchKeeper w = new SearchKeeper();
            w.make(0, 'r', true);
            w.make(root, 'f', false);
            w.watch(root);
            Given.worked(w);
            Check.due(1, () -> w.crawl(each));
            Check.due(1, () -> w.crawl(each));
            // Below the folder 0 lies the folder 1, too.
            Check.due(each == 0 ? 2 : 1, () -> w.work(500));
            Check.due(true, w::isQuiet);
        }
        Check.promise(19, "of a root that is flooded: it stays flooded");
        SearchKeeper z = Given.worked(Given.files(1));
        Given.flood(z, 2);
        Check.due(1, () -> z.crawl(1));
        Check.due(NONE, () -> z.notices(1));
        Check.due(3, () -> z.work(500));
        Check.promise(19, "notices and acts stay");
        z.empty(2);
        z.crawl(1);
        Check.due(1, () -> z.notices(1));
        Check.due(1, () -> z.work(1));
        z.crawl(1);
        Check.due(1, z::acts);
        Check.due(2, () -> z.work(500));
    }

    private static void watchedNoMore() {
        Check.promise(11, "what is watched is crawled at first");
        SearchKeeper x = new SearchKeeper();
        x.make(0, 'r', true);
        x.make(1, 'f', false);
        Check.due(1, () -> x.watch(1));
        Check.due(false, x::isQuiet);
        Check.due(0, () -> x.notices(1));
        Check.due(0, x::acts);
        Check.due(2, () -> x.work(500));
        Check.promise(11, "watched no more: its notices and its crawl go; a LOOK for each entry");
        SearchKeeper y = known();
        y.empty(3);
        y.crawl(1);
        y.empty(2);
        Check.due(1, () -> y.work(1));
        Check.due(0, () -> y.watch(1));
        // 3 has its place already, then 2, 4 and 5.
        Check.due(4, y::acts);
        Check.due(1, () -> y.work(1));
        Check.due(NONE, () -> y.edition(3));
        Check.due(1, () -> y.edition(2));
        Check.due(1, () -> y.work(1));
        Check.due(NONE, () -> y.edition(2));
        Check.due(1, () -> y.work(1));
        Check.due(0, y::entries);
        Check.due(1, () -> y.work(500));
        Check.due(true, y::isQuiet);
        Check.promise(11, "a DROP is what was added last, so a LOOK stands in its place");
        SearchKeeper z = known();
        z.move(2, 0, 'f');
        Check.due(1, () -> z.work(1));
        z.make(0, 's', true);
        z.watch(6);
        z.move(2, 6, 'f');
        z.lose(6, 1);
        Check.due(1, () -> z.watch(1));
        // Looks at 2 (known), 3, 4 with 5 (5 has an act), the crawl.
        Check.due(5, () -> z.work(500));
        Check.due(1, z::entries);
        Check.promise(11, "of a flooded one, too, and those of other roots stay");
        SearchKeeper w = known();
        w.make(0, 's', true);
        w.make(6, 'f', false);
        w.watch(6);
        Given.worked(w);
        Given.flood(w, 2);
        w.empty(7);
        Check.due(1, () -> w.watch(1));
        Check.due(1, () -> w.notices(6));
        Check.due(5, w::acts);
        Check.due(1 + 5, () -> w.work(500));
        Check.due(2, () -> w.edition(7));
        Check.due(1, w::entries);
    }

    private static void rootGone() {
        Check.promise(6, "if a root is gone: its notices and its crawl go; a LOOK for each entry");
        SearchKeeper x = known();
        x.make(0, 's', true);
        x.make(6, 'f', false);
        x.watch(6);
        Given.worked(x);
        x.empty(2);
        x.crawl(1);
        x.empty(7);
        Check.due(5, () -> x.remove(1));
        Check.due(5, x::acts);
        Check.due(1, () -> x.notices(6));
        Check.due(1, () -> x.crawl(6));
        Check.due(6 + 1, () -> x.work(500));
        Check.due(1, x::entries);
        Check.promise(6, "a LOOK for each entry, by rising numbers");
        SearchKeeper w = Given.worked(Given.files(4));
        w.empty(4);
        Check.due(1, () -> w.work(1));
        w.remove(1);
        Check.due(4, w::acts);
        // 4 has its place already, then 2, 3 and 5.
        for (int file : new int[] {4, 2, 3, 5}) {
            Check.due(1, () -> w.edition(file));
            Check.due(1, () -> w.work(1));
            Check.due(NONE, () -> w.edition(file));
        }
        Check.promise(6, "without an entry no LOOK is added");
        SearchKeeper y = Given.files(1);
        y.remove(1);
        Check.due(0, y::acts);
        Check.due(true, y::isQuiet);
        Check.promise(6, "what was watched, and is no more, is no root that goes");
        SearchKeeper z = known();
        z.make(0, 's', true);
        z.watch(6);
        Given.worked(z);
        z.watch(6);
        Given.worked(z);
        z.remove(6);
        Check.due(0, z::acts);
    }

    // ---- what can be asked

    private static void actsAtTheEdges() {
        Check.promise(20, "0 at first, at most one for each node that was made but 0");
        SearchKeeper x = new SearchKeeper();
        Check.due(0, x::acts);
        for (int node = 1; node < 60; node++) {
            x.make((node - 1) / 26, (char) ('a' + (node - 1) % 26), true);
        }
        x.watch(0);
        Given.worked(x);
        Check.due(59, x::entries);
        x.watch(0);
        Check.due(59, x::acts);
        x.watch(0);
        Check.due(59, x::acts);
    }

    private static void quiet() {
        Check.promise(21, "no root has notices");
        SearchKeeper x = Given.worked(Given.files(1));
        Check.due(true, x::isQuiet);
        x.empty(2);
        Check.due(false, x::isQuiet);
        x.lose(1, 1);
        Check.due(true, x::isQuiet);
        Check.promise(21, "or is flooded");
        Given.flood(x, 2);
        Check.due(false, x::isQuiet);
        Given.worked(x);
        Check.due(true, x::isQuiet);
        Check.promise(21, "there are no acts, put off or not");
        x.empty(2);
        x.lock(2, true);
        Check.due(1, () -> x.work(1));
        Check.due(false, x::isQuiet);
        Given.worked(x);
        Check.due(false, x::isQuiet);
        x.lock(2, false);
        Given.worked(x);
        Check.due(true, x::isQuiet);
        Check.promise(21, "and no crawl goes on, of any root");
        x.make(0, 's', true);
        x.watch(3);
        Check.due(false, x::isQuiet);
        Given.worked(x);
        Check.due(true, x::isQuiet);
        Check.promise(21, "the second root has notices");
        x.make(3, 'f', false);
        Check.due(false, x::isQuiet);
    }

    private static void entriesAtTheEdges() {
        Check.promise(22, "0 to 59");
        SearchKeeper x = new SearchKeeper();
        Check.due(0, x::entries);
        for (int node = 1; node < 60; node++) {
            x.make(0, 'a', false);
            if (node < 59) {
                x.remove(node);
            }
        }
        x.watch(0);
        Given.worked(x);
        Check.due(1, x::entries);
        Check.due(1, () -> x.edition(59));
        x.remove(59);
        Check.due(1, x::entries);
        Given.worked(x);
        Check.due(0, x::entries);
    }

    private static void editionsAtTheEdges() {
        Check.promise(23, "the edition; 0 for a folder with an entry; NONE if there is no entry");
        SearchKeeper x = known();
        Check.due(1, () -> x.edition(2));
        Check.due(0, () -> x.edition(4));
        Check.due(NONE, () -> x.edition(1));
        Check.due(NONE, () -> x.edition(0));
        x.write(2, 1);
        Check.due(1, () -> x.edition(2));
        Given.worked(x);
        Check.due(2, () -> x.edition(2));
        Check.promise(23, "of a node that is gone, as long as there is an entry");
        Given.remove(x, 2, 4);
        Check.due(2, () -> x.edition(2));
        Check.due(0, () -> x.edition(4));
        Given.worked(x);
        Check.due(NONE, () -> x.edition(2));
        Check.due(NONE, () -> x.edition(4));
        Check.promise(23, "the number of a node that was made");
        Check.due(NONE, () -> x.edition(5));
        Check.due(INDEX, () -> x.edition(6));
        Check.due(INDEX, () -> x.edition(-1));
        Check.due(INDEX, () -> x.edition(60));
        Check.due(INDEX, () -> x.edition(Integer.MIN_VALUE));
        x.make(0, 'k', false);
        Check.due(NONE, () -> x.edition(6));
    }

    private static void staleFiles() {
        Check.promise(24, "files below roots without an entry");
        SearchKeeper x = Given.files(2);
        Check.due(2, x::stale);
        Check.due(2, () -> x.work(2));
        Check.due(1, x::stale);
        Given.worked(x);
        Check.due(0, x::stale);
        Check.promise(24, "or with another edition");
        x.write(2, 1);
        Check.due(1, x::stale);
        Given.worked(x);
        Check.promise(24, "parent");
        x.make(1, 'k', true);
        Check.due(0, x::stale);
        Given.worked(x);
        x.move(2, 4, 'a');
        Check.due(1, x::stale);
        Given.worked(x);
        Check.promise(24, "or name in it");
        x.move(2, 4, 'b');
        Check.due(1, x::stale);
        Check.promise(24, "each file once, folders not at all");
        x.move(2, 1, 'c');
        x.write(2, 2);
        Check.due(1, x::stale);
        x.move(4, 1, 'l');
        Check.due(1, x::stale);
        x.lock(3, true);
        x.people(3, 0);
        Check.due(1, x::stale);
        Given.worked(x);
        Check.due(0, x::stale);
        Check.promise(24, "a file below no root is not");
        x.make(0, 'f', false);
        Check.due(0, x::stale);
        Check.promise(24, "moved there and back, it is not");
        x.move(2, 1, 'd');
        x.move(2, 1, 'c');
        Check.due(0, x::stale);
    }

    private static void staleEntries() {
        Check.promise(24, "and entries for nodes that are gone");
        SearchKeeper x = known();
        x.remove(4);
        Check.due(2, x::stale);
        x.empty(2);
        Check.due(3, x::stale);
        Given.worked(x);
        Check.due(0, x::stale);
        Check.promise(24, "or below no root");
        x.move(2, 0, 'f');
        Check.due(1, x::stale);
        x.empty(2);
        Check.due(1, x::stale);
        x.watch(1);
        Check.due(2, x::stale);
        x.watch(1);
        Check.due(1, x::stale);
        Given.worked(x);
        Check.due(0, x::stale);
        Check.promise(24, "below another root they are files with another parent");
        SearchKeeper y = known();
        y.make(0, 's', true);
        y.watch(6);
        Given.worked(y);
        y.move(4, 6, 'a');
        Check.due(0, y::stale);
        y.move(5, 6, 'h');
        Check.due(1, y::stale);
        y.watch(6);
        Check.due(2, y::stale);
        Check.promise(24, "the entry of what is a root now");
        SearchKeeper z = known();
        z.watch(1);
        Check.due(4, z::stale);
        z.watch(4);
        Check.due(3, z::stale);
    }
}
