import java.util.ArrayList;
import java.util.List;

/**
 * "If several exceptions apply to a call, the one that its comment lists first is thrown. A call
 * that throws an exception changes nothing." Each refused call is made on one of two objects that
 * are alike, in the midst of all kinds of work; then both must answer alike whatever is asked.
 */
public final class RefusedCallsTest {
    private static final long INDEX = Check.INDEX, ARGUMENT = Check.ARGUMENT, STATE = Check.STATE;
    private static final int NONE = SearchKeeper.NONE;
    private static final int OPEN = SearchKeeper.OPEN, CLOSE = SearchKeeper.CLOSE;
    private static final int LEAST = Integer.MIN_VALUE, MOST = Integer.MAX_VALUE;

    /** Numbers of the nodes of a busy object; GONE_FOLDER and GONE_FILE are gone, NEVER was not made. */
    private static final int R = 1, S = 2, T = 3, A = 4, F = 5, LOCKED = 6, H = 7, FULL = 8, B = 9, K = 10,
            GONE_FOLDER = 11, GONE_FILE = 12, NEVER = 13;
    private static final int[] NO_NODES = {-1, NEVER, 59, 60, GONE_FOLDER, GONE_FILE, LEAST, MOST};
    private static final int[] NO_MARKS = {-1, 100, -4, LEAST, MOST};
    private static final int[] NO_WORDS = {-1, 100, OPEN, CLOSE, LEAST, MOST};
    private static final int[] NO_SECONDS = {100, OPEN, CLOSE, LEAST, MOST};
    private static final int[] NO_PERSONS = {-1, 4, LEAST, MOST};
    private static final char[] NO_NAMES = {'a' - 1, 'z' + 1, 'A', 'Z', '0', 0, 255, 65535};

    interface Call {
        long on(SearchKeeper x);
    }

    interface Act {
        void on(SearchKeeper x);
    }

    private static final Act NOTHING = x -> { };
    private static final Act SIXTY = x -> {
        for (int node = NEVER; node < 39; node++) {
            x.make(T, (char) ('a' + node - NEVER), false);
        }
        for (int node = 39; node < 54; node++) {
            x.make(B, (char) ('l' + node - 39), false);
        }
        for (int node = 54; node < 60; node++) {
            x.make(0, (char) ('a' + node - 54), false);
        }
    };

    public static void main(String[] args) {
        busyObject();
        make();
        makeSixty();
        write();
        empty();
        move();
        moveOfRoots();
        remove();
        lock();
        people();
        mayRead();
        watch();
        watchThree();
        notices();
        twice();
        lose();
        pass();
        limits();
        work();
        crawl();
        edition();
        answers();
        answer();
        closest();
        Check.end("RefusedCallsTest");
    }

    /**
     * Two roots: R, in it the folder A with the folder B, and S, which is flooded; T is not watched.
     * Notices of three kinds in R, acts of both kinds, one of them at a locked file, and crawls that
     * go on. On battery, at the last minute of an hour, with some of its steps done.
     */
    private static SearchKeeper busy() {
        SearchKeeper x = new SearchKeeper();
        x.make(0, 'r', true);
        x.make(0, 's', true);
        x.make(0, 't', true);
        x.make(R, 'a', true);
        x.make(R, 'f', false);
        x.make(A, 'g', false);
        x.make(S, 'h', false);
        x.make(R, 'q', false);
        x.make(A, 'b', true);
        x.make(B, 'k', false);
        x.make(A, 'v', true);
        x.make(R, 'w', false);
        Given.fill(x, F, 7, OPEN, 8, CLOSE, 9);
        Given.fill(x, FULL, 1, 7, 2, 7, 3, 7, 4, 7, 5, 7, 6, 7, 7, 7, 8, 7, 9, 7, 9, 7);
        Given.fill(x, K, 7, 8, 5);
        x.limits(1, 5);
        x.watch(R);
        x.watch(S);
        x.work(500);
        x.battery(true);
        x.pass(59);
        x.crawl(R);
        x.crawl(S);
        x.work(1);
        x.write(LOCKED, 7);
        x.lock(LOCKED, true);
        x.remove(GONE_FILE);
        x.work(4);
        x.write(K, 9);
        x.remove(GONE_FOLDER);
        x.work(2);
        x.people(A, 7);
        x.people(K, 5);
        x.move(F, R, 'e');
        x.move(F, R, 'f');
        x.write(F, 6);
        x.move(B, T, 'b');
        x.move(B, A, 'b');
        Given.flood(x, H);
        return x;
    }

    /** So that what a refused call may spoil is there. */
    private static void busyObject() {
        Check.promise(1, "a busy object");
        SearchKeeper x = busy();
        Check.due(5, () -> x.notices(R));
        Check.due(NONE, () -> x.notices(S));
        Check.due(3, x::acts);
        Check.due(2, () -> x.crawl(S));
        Check.due(5, x::stale);
        Check.due(1, x::segments);
        Check.due(1, x::dead);
        // Seven of the hour's 20 steps were done.
        Check.due(13, () -> x.work(500));
        Check.due(false, x::isQuiet);
        SearchKeeper y = busy();
        steps(y, new ArrayList<>());
        Check.due(true, y::isQuiet);
        Check.due(0, y::stale);
    }

    private static void refused(long due, Call call) {
        refused(due, NOTHING, call);
    }

    /** The call is refused behind these acts, and makes no difference. */
    private static void refused(long due, Act before, Call call) {
        SearchKeeper x = busy();
        SearchKeeper twin = busy();
        before.on(x);
        before.on(twin);
        Check.due(due, () -> call.on(x));
        List<Long> told = tell(x);
        List<Long> alike = tell(twin);
        int place = 0;
        while (place < told.size() && told.get(place).equals(alike.get(place))) {
            place++;
        }
        int same = place;
        Check.due(told.size(), () -> same);
    }

    private static void each(long due, int[] wrong, CallWith call) {
        for (int each : wrong) {
            refused(due, x -> call.on(x, each));
        }
    }

    interface CallWith {
        long on(SearchKeeper x, int with);
    }

    // ---- all that an object can tell

    private static List<Long> tell(SearchKeeper x) {
        List<Long> told = new ArrayList<>();
        look(x, told);
        steps(x, told);
        look(x, told);
        what(x, told);
        return told;
    }

    private static void tell(List<Long> told, Check.Call call) {
        told.add(Check.answerOf(call));
    }

    private static void look(SearchKeeper x, List<Long> told) {
        tell(told, x::nodes);
        tell(told, x::acts);
        tell(told, x::entries);
        tell(told, x::stale);
        tell(told, x::segments);
        tell(told, x::dead);
        for (int node = 0; node < NEVER + 2; node++) {
            int each = node;
            tell(told, () -> x.edition(each));
        }
        for (int folder = 0; folder < B + 1; folder++) {
            int each = folder;
            tell(told, () -> x.answers(0, 7, NONE, each));
        }
        tell(told, () -> x.notices(R));
        tell(told, () -> x.notices(S));
        for (int person = 0; person < 4; person++) {
            int each = person;
            tell(told, () -> x.mayRead(each, K) ? 1 : 0);
            tell(told, () -> x.answersAnew(each, 7, 8, NONE));
            tell(told, () -> x.answer(each, 7, NONE, each));
        }
        for (int word = 5; word < 10; word++) {
            int each = word;
            tell(told, () -> x.answersAnew(0, each, NONE, R));
            tell(told, () -> x.closest(0, F, 7, each));
        }
    }

    /** Step by step, across the end of the hour, and then without battery. */
    private static void steps(SearchKeeper x, List<Long> told) {
        for (int step = 0; step < 45; step++) {
            int each = step;
            tell(told, () -> x.work(each % 3 == 2 ? 8 : 1));
            tell(told, x::acts);
            if (step == 15) {
                tell(told, () -> x.lock(LOCKED, false) ? 1 : 0);
                tell(told, () -> x.pass(1));
            }
            if (step == 30) {
                tell(told, () -> x.battery(false) ? 1 : 0);
            }
        }
        tell(told, () -> x.isQuiet() ? 1 : 0);
    }

    /** What there is, told by changing it. */
    private static void what(SearchKeeper x, List<Long> told) {
        for (int node = 0; node < NEVER + 2; node++) {
            int each = node;
            tell(told, () -> x.people(each, 15));
            tell(told, () -> x.lock(each, false) ? 1 : 0);
            tell(told, () -> x.empty(each));
            tell(told, () -> x.write(each, 1));
            tell(told, () -> x.make(R, (char) ('a' + each), false));
        }
        for (int node = 1; node < NEVER + 2; node++) {
            int each = node;
            tell(told, () -> x.move(each, T, (char) ('k' + each)));
            tell(told, () -> x.watch(each));
        }
        tell(told, () -> x.limits(2, 12));
        tell(told, () -> x.pass(1));
        tell(told, () -> x.battery(true) ? 1 : 0);
        tell(told, x::nodes);
    }

    // ---- files

    private static void make() {
        Check.promise(2, "refused: no such folder");
        each(INDEX, NO_NODES, (x, no) -> x.make(no, 'z', true));
        each(INDEX, new int[] {F, LOCKED, FULL}, (x, file) -> x.make(file, 'z', false));
        Check.promise(2, "refused: no such folder, nor such a name");
        refused(INDEX, x -> x.make(F, '`', true));
        refused(INDEX, x -> x.make(NEVER, '{', true));
        Check.promise(2, "refused: name is out of its range");
        for (char name : NO_NAMES) {
            refused(ARGUMENT, x -> x.make(A, name, true));
        }
        Check.promise(2, "refused: a node has that name there");
        refused(STATE, x -> x.make(R, 'f', false));
        refused(STATE, x -> x.make(R, 'f', true));
        refused(STATE, x -> x.make(R, 'a', false));
        refused(STATE, x -> x.make(0, 't', true));
    }

    private static void makeSixty() {
        Check.promise(2, "refused: 60 were made");
        refused(STATE, SIXTY, x -> x.make(A, 'z', false));
        refused(STATE, SIXTY, x -> x.make(R, 'f', false));
        Check.promise(2, "refused: no such folder, 60 were made");
        refused(INDEX, SIXTY, x -> x.make(59, 'z', false));
        refused(INDEX, SIXTY, x -> x.make(60, 'z', false));
        Check.promise(2, "refused: no such name, 60 were made");
        refused(ARGUMENT, SIXTY, x -> x.make(A, 'Z', false));
    }

    private static void write() {
        Check.promise(3, "refused: no such file");
        each(INDEX, NO_NODES, (x, no) -> x.write(no, 7));
        each(INDEX, new int[] {0, R, A, T}, (x, folder) -> x.write(folder, 7));
        Check.promise(3, "refused: no such file, nor such a mark");
        refused(INDEX, x -> x.write(R, 100));
        refused(INDEX, x -> x.write(GONE_FILE, -1));
        Check.promise(3, "refused: mark is none of these");
        each(ARGUMENT, NO_MARKS, (x, no) -> x.write(F, no));
        Check.promise(3, "refused: mark is none of these, and it is locked, or full");
        each(ARGUMENT, NO_MARKS, (x, no) -> x.write(LOCKED, no));
        each(ARGUMENT, NO_MARKS, (x, no) -> x.write(FULL, no));
        Check.promise(3, "refused: it is locked");
        each(STATE, new int[] {0, 99, OPEN, CLOSE}, (x, mark) -> x.write(LOCKED, mark));
        Check.promise(3, "refused: it has 20 marks");
        each(STATE, new int[] {0, 99, OPEN, CLOSE}, (x, mark) -> x.write(FULL, mark));
        Check.promise(3, "refused: both");
        refused(STATE, x -> x.lock(FULL, true), x -> x.write(FULL, 1));
        Check.promise(3, "refused: it was locked, and is gone");
        refused(INDEX, x -> x.remove(LOCKED), x -> x.write(LOCKED, 1));
    }

    private static void empty() {
        Check.promise(4, "refused: no such file");
        each(INDEX, NO_NODES, (x, no) -> x.empty(no));
        each(INDEX, new int[] {0, R, A, T}, (x, folder) -> x.empty(folder));
        Check.promise(4, "refused: it is locked");
        refused(STATE, x -> x.empty(LOCKED));
        refused(STATE, x -> x.lock(FULL, true), x -> x.empty(FULL));
        Check.promise(4, "refused: it was locked, and is gone");
        refused(INDEX, x -> x.remove(LOCKED), x -> x.empty(LOCKED));
    }

    private static void move() {
        Check.promise(5, "refused: no such node, or 0");
        each(INDEX, NO_NODES, (x, no) -> x.move(no, T, 'z'));
        refused(INDEX, x -> x.move(0, T, 'z'));
        Check.promise(5, "refused: no such folder");
        each(INDEX, NO_NODES, (x, no) -> x.move(K, no, 'z'));
        each(INDEX, new int[] {F, LOCKED, K}, (x, file) -> x.move(K, file, 'z'));
        Check.promise(5, "refused: the first one of several, no such node or folder");
        refused(INDEX, x -> x.move(0, 0, 's'));
        refused(INDEX, x -> x.move(NEVER, R, 'f'));
        refused(INDEX, x -> x.move(NEVER, R, '!'));
        refused(INDEX, x -> x.move(K, F, '!'));
        refused(INDEX, x -> x.move(F, F, 'f'));
        Check.promise(5, "refused: name is out of its range");
        for (char name : NO_NAMES) {
            refused(ARGUMENT, x -> x.move(K, A, name));
        }
        Check.promise(5, "refused: the name, and where it would lie");
        refused(ARGUMENT, x -> x.move(A, A, 'A'));
        refused(ARGUMENT, x -> x.move(A, B, '`'));
        refused(ARGUMENT, x -> x.move(R, S, '{'));
        Check.promise(5, "refused: parent is the node, or below it");
        refused(STATE, x -> x.move(A, A, 'z'));
        refused(STATE, x -> x.move(A, B, 'z'));
        refused(STATE, x -> x.move(R, B, 'z'));
        refused(STATE, x -> x.move(T, T, 't'));
        Check.promise(5, "refused: another node has that name there");
        refused(STATE, x -> x.move(K, R, 'f'));
        refused(STATE, x -> x.move(F, R, 'a'));
        refused(STATE, x -> x.move(B, R, 'q'));
        refused(STATE, x -> x.move(T, 0, 's'));
    }

    private static void moveOfRoots() {
        Check.promise(5, "refused: a root would be below another one then");
        refused(STATE, x -> x.move(R, S, 'z'));
        refused(STATE, x -> x.move(S, R, 'z'));
        refused(STATE, x -> x.move(S, B, 'z'));
        Act rootInFolder = x -> x.move(S, T, 's');
        refused(STATE, rootInFolder, x -> x.move(T, R, 'z'));
        refused(STATE, rootInFolder, x -> x.move(T, B, 'z'));
        refused(STATE, rootInFolder, x -> x.move(R, S, 'z'));
    }

    private static void remove() {
        Check.promise(6, "refused: no such node, or it is 0");
        each(INDEX, NO_NODES, (x, no) -> x.remove(no));
        refused(INDEX, x -> x.remove(0));
    }

    private static void lock() {
        Check.promise(7, "refused: no such file");
        each(INDEX, NO_NODES, (x, no) -> x.lock(no, true) ? 1 : 0);
        each(INDEX, new int[] {0, R, A, T}, (x, folder) -> x.lock(folder, true) ? 1 : 0);
        refused(INDEX, x -> x.remove(LOCKED), x -> x.lock(LOCKED, false) ? 1 : 0);
    }

    private static void people() {
        Check.promise(8, "refused: no such node");
        each(INDEX, NO_NODES, (x, no) -> x.people(no, 3));
        Check.promise(8, "refused: no such node, nor such a set");
        refused(INDEX, x -> x.people(NEVER, 16));
        refused(INDEX, x -> x.people(GONE_FILE, -1));
        Check.promise(8, "refused: people is out of its range");
        each(ARGUMENT, new int[] {-1, 16, LEAST, MOST}, (x, no) -> x.people(K, no));
        each(ARGUMENT, new int[] {-1, 16, LEAST, MOST}, (x, no) -> x.people(0, no));
    }

    private static void mayRead() {
        Check.promise(9, "refused: no such person or node");
        each(INDEX, NO_PERSONS, (x, no) -> x.mayRead(no, K) ? 1 : 0);
        each(INDEX, NO_NODES, (x, no) -> x.mayRead(0, no) ? 1 : 0);
        refused(INDEX, x -> x.mayRead(4, NEVER) ? 1 : 0);
    }

    // ---- watching, notices

    private static void watch() {
        Check.promise(11, "refused: no such folder");
        each(INDEX, NO_NODES, (x, no) -> x.watch(no));
        each(INDEX, new int[] {F, LOCKED, K}, (x, file) -> x.watch(file));
        Check.promise(11, "refused: one that is watched is below it, or it below one");
        each(STATE, new int[] {0, A, B}, (x, folder) -> x.watch(folder));
    }

    private static void watchThree() {
        Check.promise(11, "refused: 3 are");
        Act three = x -> {
            x.watch(T);
            x.make(0, 'u', true);
        };
        refused(STATE, three, x -> x.watch(NEVER));
        refused(STATE, three, x -> x.watch(B));
        refused(STATE, three, x -> x.watch(0));
        Check.promise(11, "refused: no such folder, and 3 are");
        refused(INDEX, three, x -> x.watch(F));
        refused(INDEX, three, x -> x.watch(GONE_FOLDER));
    }

    private static void notices() {
        Check.promise(12, "refused: it is no root");
        each(INDEX, NO_NODES, (x, no) -> x.notices(no));
        each(INDEX, new int[] {0, T, A, F}, (x, no) -> x.notices(no));
    }

    private static void twice() {
        Check.promise(13, "refused: it is no root");
        each(INDEX, NO_NODES, (x, no) -> x.twice(no));
        each(INDEX, new int[] {0, T, A, F}, (x, no) -> x.twice(no));
        Check.promise(13, "refused: it has none");
        refused(STATE, x -> x.lose(R, 8), x -> x.twice(R));
        refused(STATE, x -> x.watch(T), x -> x.twice(T));
        Check.promise(13, "refused: it has none, as it is flooded");
        refused(STATE, x -> x.twice(S));
    }

    private static void lose() {
        Check.promise(14, "refused: it is no root");
        each(INDEX, NO_NODES, (x, no) -> x.lose(no, 1));
        each(INDEX, new int[] {0, T, A, F}, (x, no) -> x.lose(no, 1));
        Check.promise(14, "refused: no root, and so many are not lost");
        refused(INDEX, x -> x.lose(T, 0));
        refused(INDEX, x -> x.lose(NEVER, 9));
        Check.promise(14, "refused: many is out of its range");
        each(ARGUMENT, new int[] {0, 9, -1, LEAST, MOST}, (x, no) -> x.lose(R, no));
        each(ARGUMENT, new int[] {0, 9, -1, LEAST, MOST}, (x, no) -> x.lose(S, no));
    }

    // ---- the keeper

    private static void pass() {
        Check.promise(15, "refused: minutes is out of its range");
        each(ARGUMENT, new int[] {0, -1, 1001, LEAST, MOST}, (x, no) -> x.pass(no));
        Check.promise(15, "refused: it would be above 100000");
        Act late = x -> {
            for (int thousand = 0; thousand < 99; thousand++) {
                x.pass(1000);
            }
            x.pass(939);
        };
        refused(STATE, late, x -> x.pass(3));
        refused(STATE, late, x -> x.pass(1000));
        Check.promise(15, "refused: out of its range, and above 100000");
        refused(ARGUMENT, late, x -> x.pass(1001));
        refused(ARGUMENT, late, x -> x.pass(MOST));
    }

    private static void limits() {
        Check.promise(17, "refused: depth is out of its range");
        each(ARGUMENT, new int[] {-1, 4, LEAST, MOST}, (x, no) -> x.limits(no, 20));
        Check.promise(17, "refused: words is out of its range");
        each(ARGUMENT, new int[] {0, 21, -1, LEAST, MOST}, (x, no) -> x.limits(3, no));
        each(ARGUMENT, new int[] {0, 21, -1, LEAST, MOST}, (x, no) -> x.limits(0, no));
        Check.promise(17, "refused: both");
        refused(ARGUMENT, x -> x.limits(4, 21));
    }

    private static void work() {
        Check.promise(18, "refused: steps is out of its range, on battery");
        each(ARGUMENT, new int[] {0, -1, 501, LEAST, MOST}, (x, no) -> x.work(no));
        Check.promise(18, "refused: steps is out of its range, without battery");
        for (int no : new int[] {0, -1, 501, LEAST, MOST}) {
            refused(ARGUMENT, x -> x.battery(false), x -> x.work(no));
        }
        Check.promise(18, "refused: steps is out of its range, with nothing left of the hour");
        refused(ARGUMENT, x -> x.work(500), x -> x.work(501));
        refused(ARGUMENT, x -> x.work(500), x -> x.work(0));
    }

    private static void crawl() {
        Check.promise(19, "refused: it is no root");
        each(INDEX, NO_NODES, (x, no) -> x.crawl(no));
        each(INDEX, new int[] {0, T, A, F}, (x, no) -> x.crawl(no));
    }

    private static void edition() {
        Check.promise(23, "refused: no such node was made");
        each(INDEX, new int[] {-1, NEVER, 59, 60, LEAST, MOST}, (x, no) -> x.edition(no));
    }

    // ---- questions

    private static void answers() {
        int[] neverMade = {OPEN, NEVER, 59, 60, LEAST, MOST};
        Check.promise(27, "refused: no such person, or no such node was made");
        each(INDEX, NO_PERSONS, (x, no) -> x.answers(no, 7, 8, R));
        each(INDEX, neverMade, (x, no) -> x.answers(0, 7, NONE, no));
        Check.promise(27, "refused: the same, and word or second is out of its range");
        refused(INDEX, x -> x.answers(4, 100, NONE, R));
        refused(INDEX, x -> x.answers(-1, 7, 100, R));
        refused(INDEX, x -> x.answers(0, -1, 8, NEVER));
        refused(INDEX, x -> x.answers(0, 7, OPEN, NEVER));
        Check.promise(27, "refused: word or second is out of its range");
        each(ARGUMENT, NO_WORDS, (x, no) -> x.answers(0, no, NONE, NONE));
        each(ARGUMENT, NO_SECONDS, (x, no) -> x.answers(0, 7, no, R));

        Check.promise(28, "refused: no such person, or no such node was made");
        each(INDEX, NO_PERSONS, (x, no) -> x.answersAnew(no, 7, 8, R));
        each(INDEX, neverMade, (x, no) -> x.answersAnew(0, 7, NONE, no));
        Check.promise(28, "refused: the same, and word or second is out of its range");
        refused(INDEX, x -> x.answersAnew(4, 100, NONE, R));
        refused(INDEX, x -> x.answersAnew(-1, 7, 100, R));
        refused(INDEX, x -> x.answersAnew(0, -1, 8, NEVER));
        refused(INDEX, x -> x.answersAnew(0, 7, OPEN, NEVER));
        Check.promise(28, "refused: word or second is out of its range");
        each(ARGUMENT, NO_WORDS, (x, no) -> x.answersAnew(0, no, NONE, NONE));
        each(ARGUMENT, NO_SECONDS, (x, no) -> x.answersAnew(0, 7, no, R));
    }

    private static void answer() {
        Check.promise(29, "refused: no such person");
        each(INDEX, NO_PERSONS, (x, no) -> x.answer(no, 7, NONE, 0));
        each(INDEX, NO_PERSONS, (x, no) -> x.answer(no, 100, NONE, 0));
        Check.promise(29, "refused: no such place");
        each(INDEX, new int[] {-1, 4, LEAST, MOST}, (x, no) -> x.answer(0, 7, NONE, no));
        refused(INDEX, x -> x.answer(0, 55, NONE, 0));
        Check.promise(29, "refused: word or second is out of its range, whatever the place");
        each(ARGUMENT, NO_WORDS, (x, no) -> x.answer(0, no, NONE, 0));
        each(ARGUMENT, NO_WORDS, (x, no) -> x.answer(0, no, NONE, -1));
        each(ARGUMENT, NO_SECONDS, (x, no) -> x.answer(0, 7, no, 0));
        each(ARGUMENT, NO_SECONDS, (x, no) -> x.answer(0, 7, no, MOST));
    }

    private static void closest() {
        Check.promise(30, "refused: no such person or file");
        each(INDEX, NO_PERSONS, (x, no) -> x.closest(no, F, 7, 8));
        each(INDEX, NO_NODES, (x, no) -> x.closest(0, no, 7, 8));
        each(INDEX, new int[] {0, R, A, T}, (x, folder) -> x.closest(0, folder, 7, 8));
        Check.promise(30, "refused: the person may not read it");
        refused(INDEX, x -> x.closest(1, K, 7, 8));
        refused(INDEX, x -> x.closest(3, LOCKED, 7, 8));
        Check.promise(30, "refused: the same, and word or second is out of its range");
        refused(INDEX, x -> x.closest(4, F, 100, 8));
        refused(INDEX, x -> x.closest(0, R, 7, 100));
        refused(INDEX, x -> x.closest(1, K, 7, NONE));
        Check.promise(30, "refused: word or second is out of its range");
        each(ARGUMENT, NO_WORDS, (x, no) -> x.closest(0, F, no, 8));
        each(ARGUMENT, NO_WORDS, (x, no) -> x.closest(0, F, 7, no));
    }
}
