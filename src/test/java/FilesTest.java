/** Promises 1 to 10: folders and files, whatever is watched. */
public final class FilesTest {
    private static final long INDEX = Check.INDEX, ARGUMENT = Check.ARGUMENT, STATE = Check.STATE;
    private static final int NONE = SearchKeeper.NONE;
    private static final int OPEN = SearchKeeper.OPEN, CLOSE = SearchKeeper.CLOSE;

    public static void main(String[] args) {
        newObject();
        make();
        makeSixty();
        write();
        empty();
        move();
        moveAndRoots();
        remove();
        lock();
        people();
        mayRead();
        nodes();
        Check.end("FilesTest");
    }

    /** Folders 1 (r) and 2 (s) at the top, folder 3 (a) in 1, files 4 (f) in 1 and 5 (g) in 3. */
    private static SearchKeeper small() {
        SearchKeeper x = new SearchKeeper();
        x.make(0, 'r', true);
        x.make(0, 's', true);
        x.make(1, 'a', true);
        x.make(1, 'f', false);
        x.make(3, 'g', false);
        return x;
    }

    private static void newObject() {
        Check.promise(1, "a new object");
        SearchKeeper x = new SearchKeeper();
        Check.due(1, x::nodes);
        Check.due(15, () -> x.people(0, 15));
        for (int person = 0; person < 4; person++) {
            int each = person;
            Check.due(true, () -> x.mayRead(each, 0));
        }
        Check.due(INDEX, () -> x.notices(0));
        Check.due(0, x::acts);
        Check.due(true, x::isQuiet);
        Check.due(0, x::entries);
        Check.due(NONE, () -> x.edition(0));
        Check.due(0, x::stale);
        Check.due(0, x::segments);
        Check.due(0, x::dead);
        Check.due(0, () -> x.work(500));
        Check.due(1, () -> x.pass(1));
        Check.due(false, () -> x.battery(false));
        Check.due(12, () -> x.limits(2, 12));
        Check.due(INDEX, () -> x.empty(0));
        Check.due(1, () -> x.make(0, 'a', true));
    }

    private static void make() {
        Check.promise(2, "ordinary");
        SearchKeeper x = small();
        Check.due(6, () -> x.make(3, 'f', false));
        Check.due(7, () -> x.make(0, 'a', true));
        Check.due(8, () -> x.make(0, 'z', true));
        Check.due(2, () -> x.write(6, 1));
        Check.due(INDEX, () -> x.write(7, 1));
        Check.due(15, () -> x.people(6, 15));

        Check.promise(2, "wrong inputs");
        Check.due(INDEX, () -> x.make(-1, 'b', true));
        Check.due(INDEX, () -> x.make(9, 'b', true));
        Check.due(INDEX, () -> x.make(Integer.MAX_VALUE, 'b', true));
        Check.due(INDEX, () -> x.make(Integer.MIN_VALUE, 'b', true));
        Check.due(INDEX, () -> x.make(4, 'b', true));
        Check.due(INDEX, () -> x.make(4, '?', true));
        Check.due(ARGUMENT, () -> x.make(1, '`', true));
        Check.due(ARGUMENT, () -> x.make(1, '{', true));
        Check.due(ARGUMENT, () -> x.make(1, 'A', true));
        Check.due(ARGUMENT, () -> x.make(1, (char) 0, true));
        Check.due(ARGUMENT, () -> x.make(1, (char) 65535, true));
        Check.due(STATE, () -> x.make(1, 'a', false));
        Check.due(STATE, () -> x.make(1, 'f', true));
        Check.due(9, x::nodes);

        Check.promise(2, "a name that is free again, a number that is not");
        Check.due(1, () -> x.remove(8));
        Check.due(INDEX, () -> x.make(8, 'b', true));
        Check.due(9, () -> x.make(0, 'z', false));
    }

    private static void makeSixty() {
        Check.promise(2, "60 in all, the top among them, gone ones too");
        SearchKeeper x = new SearchKeeper();
        for (int node = 1; node < 60; node++) {
            int each = node;
            Check.due(each, () -> x.make(0, 'a', true));
            if (node < 59) {
                x.remove(node);
            }
        }
        Check.due(2, x::nodes);
        Check.due(STATE, () -> x.make(0, 'b', true));
        Check.due(ARGUMENT, () -> x.make(0, '-', true));
        Check.due(INDEX, () -> x.make(58, 'b', true));
        Check.due(1, () -> x.remove(59));
        Check.due(STATE, () -> x.make(0, 'a', true));
        Check.due(NONE, () -> x.edition(59));
        Check.due(INDEX, () -> x.edition(60));
        Check.due(INDEX, () -> x.people(60, 1));
    }

    private static void write() {
        Check.promise(3, "ordinary and the kinds of marks");
        SearchKeeper x = small();
        Check.due(2, () -> x.write(4, 0));
        Check.due(3, () -> x.write(4, 99));
        Check.due(4, () -> x.write(4, OPEN));
        Check.due(5, () -> x.write(4, CLOSE));
        Check.due(2, () -> x.write(5, 99));

        Check.promise(3, "wrong inputs");
        Check.due(INDEX, () -> x.write(1, 1));
        Check.due(INDEX, () -> x.write(0, 1));
        Check.due(INDEX, () -> x.write(-1, 1));
        Check.due(INDEX, () -> x.write(6, 1));
        Check.due(INDEX, () -> x.write(6, 100));
        Check.due(ARGUMENT, () -> x.write(4, 100));
        Check.due(ARGUMENT, () -> x.write(4, -1));
        Check.due(ARGUMENT, () -> x.write(4, -4));
        x.lock(4, true);
        Check.due(ARGUMENT, () -> x.write(4, 100));
        Check.due(STATE, () -> x.write(4, 1));
        x.lock(4, false);
        Check.due(6, () -> x.write(4, 1));

        Check.promise(3, "20 marks at most");
        for (int mark = 5; mark < 20; mark++) {
            int each = mark;
            Check.due(each + 2, () -> x.write(4, each));
        }
        Check.due(STATE, () -> x.write(4, 1));
        Check.due(20, () -> x.empty(4));
        Check.due(23, () -> x.write(4, 1));
        Check.due(2, () -> x.remove(3));
        Check.due(INDEX, () -> x.write(5, 1));
    }

    private static void empty() {
        Check.promise(4, "a write like others");
        SearchKeeper x = small();
        Check.due(0, () -> x.empty(4));
        Check.due(3, () -> x.write(4, 7));
        Check.due(4, () -> x.write(4, OPEN));
        Check.due(2, () -> x.empty(4));
        Check.due(0, () -> x.empty(4));
        Check.due(7, () -> x.write(4, 7));
        x.watch(1);
        Check.due(1, () -> x.empty(4));
        Check.due(1, () -> x.notices(1));

        Check.promise(4, "wrong inputs");
        Check.due(INDEX, () -> x.empty(1));
        Check.due(INDEX, () -> x.empty(-1));
        Check.due(INDEX, () -> x.empty(6));
        x.lock(4, true);
        Check.due(STATE, () -> x.empty(4));
        x.remove(4);
        Check.due(INDEX, () -> x.empty(4));
    }

    private static void move() {
        Check.promise(5, "ordinary");
        SearchKeeper x = small();
        Check.due(1, () -> x.move(4, 2, 'f'));
        Check.due(2, () -> x.move(4, 2, 'k'));
        Check.due(2, () -> x.move(4, 2, 'k'));
        Check.due(1, () -> x.move(3, 2, 'a'));
        Check.due(0, () -> x.move(2, 1, 'z'));
        Check.due(2, () -> x.write(5, 1));
        Check.due(6, () -> x.make(1, 'a', true));
        Check.due(7, () -> x.make(2, 'f', true));
        Check.due(STATE, () -> x.make(2, 'k', true));

        Check.promise(5, "wrong inputs");
        Check.due(INDEX, () -> x.move(0, 1, 'b'));
        Check.due(INDEX, () -> x.move(-1, 1, 'b'));
        Check.due(INDEX, () -> x.move(8, 1, 'b'));
        Check.due(INDEX, () -> x.move(1, 8, 'b'));
        Check.due(INDEX, () -> x.move(1, -1, 'b'));
        Check.due(INDEX, () -> x.move(3, 4, 'b'));
        Check.due(INDEX, () -> x.move(3, 4, '!'));
        Check.due(ARGUMENT, () -> x.move(3, 1, '`'));
        Check.due(ARGUMENT, () -> x.move(3, 3, '{'));
        Check.due(STATE, () -> x.move(1, 1, 'b'));
        Check.due(STATE, () -> x.move(1, 2, 'b'));
        Check.due(STATE, () -> x.move(1, 3, 'b'));
        Check.due(STATE, () -> x.move(3, 1, 'a'));
        Check.due(STATE, () -> x.move(4, 2, 'a'));
        x.remove(3);
        Check.due(INDEX, () -> x.move(3, 1, 'b'));
        Check.due(INDEX, () -> x.move(4, 3, 'b'));
        Check.due(2, () -> x.move(4, 2, 'a'));
        Check.due(6, x::nodes);
    }

    private static void moveAndRoots() {
        Check.promise(5, "no root below another one");
        SearchKeeper x = small();
        x.watch(3);
        x.watch(2);
        Check.due(STATE, () -> x.move(3, 2, 'b'));
        Check.due(STATE, () -> x.move(1, 2, 'b'));
        Check.due(6, () -> x.make(2, 'd', true));
        Check.due(STATE, () -> x.move(3, 6, 'b'));
        Check.due(STATE, () -> x.move(1, 6, 'b'));
        Check.due(1, () -> x.move(3, 0, 'b'));
        Check.due(0, () -> x.move(3, 0, 'c'));
        Check.due(0, () -> x.move(1, 2, 'b'));
        Check.due(2, () -> x.move(6, 3, 'd'));
        Check.due(1, () -> x.watch(3));
        Check.due(0, () -> x.move(3, 2, 'd'));
    }

    private static void remove() {
        Check.promise(6, "all that lies in it goes, and what lies in that");
        SearchKeeper x = small();
        Check.due(1, () -> x.remove(4));
        Check.due(3, () -> x.remove(1));
        Check.due(2, x::nodes);
        Check.due(INDEX, () -> x.write(5, 1));
        Check.due(6, () -> x.make(0, 'r', false));

        Check.promise(6, "what was moved out stays, what was moved in goes, whatever the numbers");
        SearchKeeper y = small();
        Check.due(1, () -> y.move(3, 2, 'a'));
        Check.due(2, () -> y.remove(1));
        Check.due(2, () -> y.write(5, 1));
        Check.due(6, () -> y.make(3, 'h', true));
        Check.due(0, () -> y.move(2, 0, 's'));
        Check.due(7, () -> y.make(0, 't', true));
        Check.due(0, () -> y.move(2, 7, 's'));
        Check.due(5, () -> y.remove(7));
        Check.due(1, y::nodes);

        Check.promise(6, "wrong inputs");
        Check.due(INDEX, () -> y.remove(0));
        Check.due(INDEX, () -> y.remove(-1));
        Check.due(INDEX, () -> y.remove(7));
        Check.due(INDEX, () -> y.remove(8));
        Check.due(INDEX, () -> y.remove(2));
    }

    private static void lock() {
        Check.promise(7, "ordinary and twice the same");
        SearchKeeper x = small();
        Check.due(false, () -> x.lock(4, true));
        Check.due(true, () -> x.lock(4, true));
        Check.due(STATE, () -> x.write(4, 1));
        Check.due(2, () -> x.write(5, 1));
        Check.due(true, () -> x.lock(4, false));
        Check.due(false, () -> x.lock(4, false));
        Check.due(2, () -> x.write(4, 1));
        Check.due(false, () -> x.lock(5, true));
        Check.due(1, () -> x.move(4, 2, 'f'));
        Check.due(3, () -> x.move(5, 2, 'g'));

        Check.promise(7, "no notices, wrong inputs");
        x.watch(2);
        Check.due(true, () -> x.lock(5, true));
        Check.due(0, () -> x.notices(2));
        Check.due(INDEX, () -> x.lock(0, true) ? 1 : 0);
        Check.due(INDEX, () -> x.lock(3, true) ? 1 : 0);
        Check.due(INDEX, () -> x.lock(-1, true) ? 1 : 0);
        Check.due(INDEX, () -> x.lock(6, true) ? 1 : 0);
        Check.due(1, () -> x.remove(5));
        Check.due(INDEX, () -> x.lock(5, true) ? 1 : 0);
    }

    private static void people() {
        Check.promise(8, "ordinary");
        SearchKeeper x = small();
        Check.due(15, () -> x.people(4, 0));
        Check.due(0, () -> x.people(4, 5));
        Check.due(5, () -> x.people(4, 15));
        Check.due(15, () -> x.people(0, 7));
        Check.due(15, () -> x.people(1, 8));

        Check.promise(8, "no notices, wrong inputs");
        x.watch(1);
        Check.due(15, () -> x.people(4, 3));
        Check.due(0, () -> x.notices(1));
        Check.due(INDEX, () -> x.people(-1, 1));
        Check.due(INDEX, () -> x.people(6, 1));
        Check.due(INDEX, () -> x.people(6, 16));
        Check.due(ARGUMENT, () -> x.people(4, -1));
        Check.due(ARGUMENT, () -> x.people(4, 16));
        Check.due(3, () -> x.people(4, 3));
        x.remove(4);
        Check.due(INDEX, () -> x.people(4, 1));
    }

    private static void mayRead() {
        Check.promise(9, "the node's set and those of all folders above");
        SearchKeeper x = small();
        x.people(5, 1 + 2 + 4);
        x.people(3, 1 + 2);
        x.people(0, 1 + 4 + 8);
        Check.due(true, () -> x.mayRead(0, 5));
        Check.due(false, () -> x.mayRead(1, 5));
        Check.due(false, () -> x.mayRead(2, 5));
        Check.due(false, () -> x.mayRead(3, 5));
        Check.due(true, () -> x.mayRead(2, 1));
        Check.due(false, () -> x.mayRead(2, 3));
        Check.due(false, () -> x.mayRead(1, 0));
        Check.due(true, () -> x.mayRead(3, 4));
        Check.due(3, () -> x.move(5, 2, 'g'));
        Check.due(true, () -> x.mayRead(2, 5));

        Check.promise(9, "58 folders above the deepest node, and the top above them");
        SearchKeeper deep = new SearchKeeper();
        for (int node = 1; node < 60; node++) {
            deep.make(node - 1, 'd', node < 59);
        }
        Check.due(true, () -> deep.mayRead(3, 59));
        deep.people(0, 7);
        Check.due(false, () -> deep.mayRead(3, 59));
        Check.due(STATE, () -> deep.move(1, 58, 'e'));
        Check.due(1, () -> deep.watch(0));
        Check.due(2, () -> deep.write(59, 1));
        Check.due(1, () -> deep.notices(0));
        Check.due(STATE, () -> deep.watch(58));
        // The notice, the text in two steps, 59 looks, and 59 folders crawled.
        Check.due(121, () -> deep.work(500));
        Check.due(0, deep::stale);
        Check.due(1, () -> deep.answers(0, 1, NONE, 0));
        Check.due(1, () -> deep.answersAnew(0, 1, NONE, 0));
        Check.due(59, () -> deep.remove(1));
        Check.due(2, () -> deep.work(500));
        Check.due(0, deep::entries);

        Check.promise(9, "wrong inputs");
        Check.due(INDEX, () -> x.mayRead(-1, 5) ? 1 : 0);
        Check.due(INDEX, () -> x.mayRead(4, 5) ? 1 : 0);
        Check.due(INDEX, () -> x.mayRead(0, -1) ? 1 : 0);
        Check.due(INDEX, () -> x.mayRead(0, 6) ? 1 : 0);
        x.remove(5);
        Check.due(INDEX, () -> x.mayRead(0, 5) ? 1 : 0);
    }

    private static void nodes() {
        Check.promise(10, "those that are there");
        SearchKeeper x = small();
        Check.due(6, x::nodes);
        x.remove(3);
        Check.due(4, x::nodes);
        x.make(1, 'a', true);
        Check.due(5, x::nodes);
        Check.due(STATE, () -> x.make(1, 'a', true));
        Check.due(5, x::nodes);
    }
}
