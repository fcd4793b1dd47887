/** Promises 1 to 10 at the edges, sentence by sentence of 'Files' in the document. */
public final class FilesEdgesTest {
    private static final long INDEX = Check.INDEX, ARGUMENT = Check.ARGUMENT, STATE = Check.STATE;
    private static final int NONE = SearchKeeper.NONE;
    private static final int OPEN = SearchKeeper.OPEN, CLOSE = SearchKeeper.CLOSE;

    public static void main(String[] args) {
        newObject();
        objectsAreAlone();
        theLastCall();
        neverGivenTwice();
        sixtyInAll();
        sixtyWithGoneOnes();
        theTop();
        lettersOfNames();
        oneNameInAFolder();
        namesThatAreFreeAgain();
        namesOfMoves();
        goneWithAll();
        belowByLevels();
        marks();
        twentyMarks();
        editions();
        emptyEdges();
        moveReturns();
        locks();
        lockedOnesStayFreeToGo();
        sets();
        eachPersonAlone();
        rightsOfAllAbove();
        rightsFollowMoves();
        countOfNodes();
        Check.end("FilesEdgesTest");
    }

    private static void newObject() {
        Check.promise(1, "the folder 0, which all may read; nothing is watched, the minute 0");
        SearchKeeper x = new SearchKeeper();
        Check.due(1, x::nodes);
        Check.due(INDEX, () -> x.notices(0));
        Check.due(INDEX, () -> x.crawl(0));
        Check.due(0, () -> x.work(1));
        for (int person = 0; person < 4; person++) {
            int each = person;
            Check.due(true, () -> x.mayRead(each, 0));
        }
        Check.due(1, () -> x.watch(0));
        Check.due(1000, () -> x.pass(1000));
        Check.due(false, () -> x.battery(true));
    }

    private static void objectsAreAlone() {
        Check.promise(1, "what is done to one object is not done to another one");
        SearchKeeper x = Given.worked(Given.files(3));
        x.write(2, 7);
        x.people(0, 0);
        x.limits(0, 1);
        x.battery(true);
        x.pass(500);
        SearchKeeper y = new SearchKeeper();
        Check.due(1, y::nodes);
        Check.due(0, y::entries);
        Check.due(15, () -> y.people(0, 15));
        Check.due(12, () -> y.limits(2, 12));
        Check.due(false, () -> y.battery(false));
        Check.due(1, () -> y.pass(1));
        Check.due(true, y::isQuiet);
        Check.due(4 + 1, x::nodes);
    }

    private static void theLastCall() {
        Check.promise(1, "the 512th call is answered like the first one");
        // Three calls made the file 2.
        SearchKeeper x = Given.files(1);
        for (int call = 4; call < 512; call++) {
            int edition = call - 2;
            boolean isEven = edition % 2 == 0;
            Check.due(isEven ? edition : 1, () -> isEven ? x.write(2, OPEN) : x.empty(2));
        }
        Check.due(510, () -> x.write(2, 7));
    }

    private static void neverGivenTwice() {
        Check.promise(2, "numbered from 0 and never given twice");
        SearchKeeper x = new SearchKeeper();
        Check.due(1, () -> x.make(0, 'a', false));
        Check.due(1, () -> x.remove(1));
        Check.due(2, () -> x.make(0, 'a', false));
        Check.due(ARGUMENT, () -> x.make(0, 'A', false));
        Check.due(STATE, () -> x.make(0, 'a', false));
        Check.due(INDEX, () -> x.make(2, 'a', false));
        Check.due(3, () -> x.make(0, 'b', false));
    }

    private static void sixtyInAll() {
        Check.promise(2, "at most 60 in all");
        SearchKeeper x = new SearchKeeper();
        for (int node = 1; node < 60; node++) {
            int each = node;
            int parent = (node - 1) / 26;
            char name = (char) ('a' + (node - 1) % 26);
            Check.due(each, () -> x.make(parent, name, true));
        }
        Check.due(60, x::nodes);
        Check.due(STATE, () -> x.make(59, 'a', true));
        Check.due(STATE, () -> x.make(59, 'a', false));
        Check.due(60, x::nodes);
        Check.due(NONE, () -> x.edition(59));
        Check.due(INDEX, () -> x.edition(60));
        Check.due(2, () -> x.move(59, 58, 'a'));
        Check.due(15, () -> x.people(59, 3));
        Check.due(INDEX, () -> x.people(60, 3));
    }

    private static void sixtyWithGoneOnes() {
        Check.promise(2, "60 were made, if gone ones are among them, too");
        SearchKeeper x = new SearchKeeper();
        for (int node = 1; node < 59; node++) {
            x.make(0, 'a', true);
            x.remove(node);
        }
        Check.due(59, () -> x.make(0, 'a', false));
        Check.due(2, x::nodes);
        Check.due(STATE, () -> x.make(0, 'b', false));
        Check.due(1, () -> x.remove(59));
        Check.due(STATE, () -> x.make(0, 'a', false));
        Check.due(1, x::nodes);
    }

    private static void theTop() {
        Check.promise(5, "the node 0 is a folder, at the top: it is neither moved nor removed");
        SearchKeeper x = Given.folders(1);
        Check.due(INDEX, () -> x.move(0, 1, 'a'));
        Check.due(INDEX, () -> x.move(0, 0, 'a'));
        Check.due(INDEX, () -> x.remove(0));
        Check.due(INDEX, () -> x.write(0, 1));
        Check.due(INDEX, () -> x.empty(0));
        Check.due(INDEX, () -> x.lock(0, true) ? 1 : 0);
        Check.due(15, () -> x.people(0, 14));
        Check.due(2, () -> x.remove(1));
        Check.due(1, x::nodes);
        Check.due(3, () -> x.make(0, 'r', true));
        Check.promise(30, "the node 0 is no file");
        Check.due(INDEX, () -> x.closest(1, 0, 1, 2));
    }

    private static void lettersOfNames() {
        Check.promise(2, "a name, a letter a to z");
        SearchKeeper x = new SearchKeeper();
        for (char name = 0; name < 300; name++) {
            char each = name;
            boolean isLetter = "abcdefghijklmnopqrstuvwxyz".indexOf(name) >= 0;
            if (!isLetter) {
                Check.due(ARGUMENT, () -> x.make(0, each, false));
            }
        }
        Check.due(1, () -> x.make(0, 'a', true));
        Check.due(2, () -> x.make(0, 'z', true));
        Check.due(ARGUMENT, () -> x.make(0, (char) ('a' - 1), true));
        Check.due(ARGUMENT, () -> x.make(0, (char) ('z' + 1), true));
        Check.due(ARGUMENT, () -> x.make(0, (char) ('b' + 256), true));
        Check.promise(5, "a name, a letter a to z");
        Check.due(0, () -> x.move(1, 2, 'a'));
        Check.due(2, () -> x.move(1, 2, 'z'));
        Check.due(ARGUMENT, () -> x.move(1, 2, (char) ('a' - 1)));
        Check.due(ARGUMENT, () -> x.move(1, 2, (char) ('z' + 1)));
        Check.due(ARGUMENT, () -> x.move(1, 2, (char) 0));
        Check.due(ARGUMENT, () -> x.move(1, 2, (char) 65535));
    }

    private static void oneNameInAFolder() {
        Check.promise(2, "a name which no other node has there");
        SearchKeeper x = new SearchKeeper();
        for (int i = 0; i < 26; i++) {
            int each = i + 1;
            char name = (char) ('a' + i);
            Check.due(each, () -> x.make(0, name, each % 2 == 1));
        }
        for (int i = 0; i < 26; i++) {
            char name = (char) ('a' + i);
            Check.due(STATE, () -> x.make(0, name, false));
            Check.due(STATE, () -> x.make(0, name, true));
        }
        Check.due(27, () -> x.make(1, 'a', false));
        Check.due(28, () -> x.make(3, 'a', false));
        Check.due(STATE, () -> x.make(3, 'a', true));
    }

    private static void namesThatAreFreeAgain() {
        Check.promise(2, "a name is free behind a removal, a move, and another name");
        SearchKeeper x = new SearchKeeper();
        x.make(0, 'a', true);
        x.make(0, 'b', false);
        x.make(0, 'c', false);
        x.make(0, 'd', false);
        x.remove(2);
        Check.due(5, () -> x.make(0, 'b', false));
        x.move(3, 1, 'c');
        Check.due(6, () -> x.make(0, 'c', false));
        Check.due(STATE, () -> x.make(1, 'c', false));
        x.move(4, 0, 'e');
        Check.due(7, () -> x.make(0, 'd', false));
        Check.due(STATE, () -> x.make(0, 'e', false));
        Check.promise(2, "what went with its folder takes no name");
        x.remove(1);
        Check.due(8, () -> x.make(0, 'a', true));
        Check.due(9, () -> x.make(8, 'c', false));
    }

    private static void namesOfMoves() {
        Check.promise(5, "another node has that name there: not the node itself");
        SearchKeeper x = new SearchKeeper();
        x.make(0, 'a', true);
        x.make(0, 'b', false);
        x.make(1, 'b', false);
        Check.due(0, () -> x.move(2, 0, 'b'));
        Check.due(STATE, () -> x.move(2, 0, 'a'));
        Check.due(STATE, () -> x.move(2, 1, 'b'));
        Check.due(STATE, () -> x.move(3, 0, 'b'));
        Check.due(0, () -> x.move(2, 1, 'c'));
        Check.due(1, () -> x.move(3, 0, 'b'));
        Check.due(1, () -> x.move(2, 0, 'c'));
        x.remove(3);
        Check.due(0, () -> x.move(2, 0, 'b'));
    }

    private static void goneWithAll() {
        Check.promise(6, "gone with all that lie in it, and what lies in these, and so on");
        SearchKeeper x = new SearchKeeper();
        x.make(0, 'a', true);
        x.make(0, 'b', true);
        x.make(1, 'a', false);
        x.make(1, 'b', true);
        x.make(4, 'a', true);
        x.make(5, 'a', false);
        x.make(2, 'a', false);
        // A later one above an earlier one: 8 in 2, and 4 with all in it in 8.
        x.make(2, 'z', true);
        Check.due(1, () -> x.move(4, 8, 'b'));
        Check.due(2, () -> x.remove(1));
        Check.due(7, x::nodes);
        Check.due(6, () -> x.remove(2));
        Check.due(1, x::nodes);
        for (int node = 1; node < 9; node++) {
            int each = node;
            Check.due(INDEX, () -> x.remove(each));
            Check.due(INDEX, () -> x.people(each, 1));
            Check.due(INDEX, () -> x.mayRead(0, each) ? 1 : 0);
            Check.due(INDEX, () -> x.lock(each, true) ? 1 : 0);
            Check.due(INDEX, () -> x.write(each, 1));
            Check.due(INDEX, () -> x.empty(each));
            Check.due(INDEX, () -> x.make(each, 'k', true));
            Check.due(INDEX, () -> x.move(each, 0, 'k'));
            Check.due(INDEX, () -> x.watch(each));
            Check.due(NONE, () -> x.edition(each));
        }

        Check.promise(6, "an empty folder and a file go alone");
        SearchKeeper y = new SearchKeeper();
        y.make(0, 'a', true);
        y.make(0, 'b', false);
        Check.due(1, () -> y.remove(1));
        Check.due(1, () -> y.remove(2));

        Check.promise(6, "all 59 go at once");
        SearchKeeper deep = deep();
        Check.due(59, () -> deep.remove(1));
        Check.due(1, deep::nodes);
    }

    /** The folders 1 to 58, each in the one before, and the file 59 in the last one. */
    private static SearchKeeper deep() {
        SearchKeeper x = new SearchKeeper();
        for (int node = 1; node < 60; node++) {
            x.make(node - 1, 'd', node < 59);
        }
        return x;
    }

    private static void belowByLevels() {
        Check.promise(5, "parent is the node, or below it");
        SearchKeeper x = deep();
        Check.due(STATE, () -> x.move(1, 1, 'e'));
        Check.due(STATE, () -> x.move(1, 2, 'e'));
        Check.due(STATE, () -> x.move(1, 3, 'e'));
        Check.due(STATE, () -> x.move(1, 58, 'e'));
        Check.due(STATE, () -> x.move(57, 58, 'e'));
        Check.due(57, () -> x.move(58, 57, 'e'));
        Check.due(57, () -> x.move(58, 1, 'e'));
        Check.due(56, () -> x.move(57, 58, 'e'));
        Check.due(STATE, () -> x.move(58, 57, 'e'));
        Check.due(58, () -> x.move(59, 0, 'e'));
        Check.due(0, () -> x.move(1, 0, 'd'));
    }

    private static void marks() {
        Check.promise(3, "0 to 99, OPEN or CLOSE");
        SearchKeeper x = Given.files(1);
        Check.due(2, () -> x.write(2, 0));
        Check.due(3, () -> x.write(2, 99));
        Check.due(4, () -> x.write(2, OPEN));
        Check.due(5, () -> x.write(2, CLOSE));
        Check.due(ARGUMENT, () -> x.write(2, 100));
        Check.due(ARGUMENT, () -> x.write(2, NONE));
        Check.due(ARGUMENT, () -> x.write(2, -4));
        Check.due(ARGUMENT, () -> x.write(2, Integer.MAX_VALUE));
        Check.due(ARGUMENT, () -> x.write(2, Integer.MIN_VALUE));
        Check.due(4, () -> x.empty(2));
    }

    private static void twentyMarks() {
        Check.promise(3, "a text of at most 20 marks, containers' marks too");
        SearchKeeper x = Given.files(2);
        for (int mark = 1; mark <= 20; mark++) {
            int each = mark;
            Check.due(each + 1, () -> x.write(2, each % 3 == 0 ? OPEN : each % 3 == 1 ? CLOSE : 5));
        }
        Check.due(STATE, () -> x.write(2, 5));
        Check.due(STATE, () -> x.write(2, OPEN));
        Check.due(STATE, () -> x.write(2, CLOSE));
        Check.due(2, () -> x.write(3, 5));
        Check.promise(4, "how many marks it had, 20 and 0");
        Check.due(20, () -> x.empty(2));
        Check.due(0, () -> x.empty(2));
        Check.due(24, () -> x.write(2, 5));
        Check.due(1, () -> x.empty(2));
    }

    private static void editions() {
        Check.promise(3, "an edition, 1 at first; each write makes it 1 more");
        SearchKeeper x = Given.worked(Given.files(2));
        Check.due(1, () -> x.edition(2));
        Check.due(2, () -> x.write(2, 1));
        Check.due(3, () -> x.write(2, 1));
        Check.promise(4, "which is a write");
        Check.due(2, () -> x.empty(2));
        Check.due(5, () -> x.write(2, 1));
        Check.promise(3, "nothing else makes it more");
        x.move(2, 1, 'k');
        x.people(2, 3);
        x.lock(2, true);
        Check.due(STATE, () -> x.write(2, 1));
        x.lock(2, false);
        x.empty(3);
        Check.due(6, () -> x.write(2, 1));
    }

    private static void emptyEdges() {
        Check.promise(4, "an empty file is emptied, too: an edition and a notice");
        SearchKeeper x = Given.worked(Given.files(1));
        Check.due(0, () -> x.empty(2));
        Check.due(1, () -> x.notices(1));
        Check.due(2, () -> x.work(500));
        Check.due(2, () -> x.edition(2));
    }

    private static void moveReturns() {
        Check.promise(5, "returns the parent before");
        SearchKeeper x = new SearchKeeper();
        x.make(0, 'a', true);
        x.make(1, 'b', true);
        x.make(2, 'c', false);
        Check.due(2, () -> x.move(3, 0, 'c'));
        Check.due(0, () -> x.move(3, 1, 'c'));
        Check.due(1, () -> x.move(3, 1, 'c'));
        Check.due(1, () -> x.move(3, 1, 'd'));
        Check.due(1, () -> x.move(2, 0, 'b'));
        Check.due(0, () -> x.move(1, 2, 'a'));
        Check.due(2, () -> x.move(1, 2, 'a'));
    }

    private static void locks() {
        Check.promise(7, "it may be locked: not at first, until it is freed");
        SearchKeeper x = Given.files(2);
        Check.due(false, () -> x.lock(2, false));
        Check.due(false, () -> x.lock(2, true));
        Check.due(true, () -> x.lock(2, true));
        Check.due(false, () -> x.lock(3, false));
        Check.due(STATE, () -> x.write(2, 1));
        Check.due(STATE, () -> x.empty(2));
        Check.due(2, () -> x.write(3, 1));
        Check.due(true, () -> x.lock(2, false));
        Check.due(2, () -> x.write(2, 1));
        Check.due(1, () -> x.empty(2));
        Check.promise(7, "a folder is not locked");
        Check.due(INDEX, () -> x.lock(1, true) ? 1 : 0);
        Check.due(INDEX, () -> x.lock(1, false) ? 1 : 0);
    }

    private static void lockedOnesStayFreeToGo() {
        Check.promise(5, "a locked file is moved like others, and stays locked");
        SearchKeeper x = Given.files(2);
        x.lock(2, true);
        Check.due(1, () -> x.move(2, 0, 'k'));
        Check.due(STATE, () -> x.write(2, 1));
        Check.due(15, () -> x.people(2, 1));
        Check.promise(6, "a locked file is removed like others");
        Check.due(1, () -> x.remove(2));
        Check.due(INDEX, () -> x.write(2, 1));
        Check.due(4, () -> x.make(0, 'k', false));
        Check.due(false, () -> x.lock(4, false));
    }

    private static void sets() {
        Check.promise(8, "0 to 15, all (15) at first");
        SearchKeeper x = Given.files(1);
        for (int node = 0; node < 3; node++) {
            int each = node;
            Check.due(ARGUMENT, () -> x.people(each, -1));
            Check.due(ARGUMENT, () -> x.people(each, 16));
            Check.due(ARGUMENT, () -> x.people(each, Integer.MAX_VALUE));
            Check.due(ARGUMENT, () -> x.people(each, Integer.MIN_VALUE));
            Check.due(15, () -> x.people(each, 0));
            Check.due(0, () -> x.people(each, 15));
            Check.due(15, () -> x.people(each, 7));
            Check.due(7, () -> x.people(each, 8));
        }
    }

    private static void eachPersonAlone() {
        Check.promise(9, "2 to the power of each, added");
        SearchKeeper x = Given.files(1);
        for (int people = 0; people < 16; people++) {
            x.people(2, people);
            String bits = Integer.toBinaryString(16 + people);
            for (int person = 0; person < 4; person++) {
                int each = person;
                boolean isIn = bits.charAt(4 - person) == '1';
                Check.due(isIn, () -> x.mayRead(each, 2));
                Check.due(true, () -> x.mayRead(each, 1));
            }
        }
        Check.promise(9, "there is no such person");
        Check.due(INDEX, () -> x.mayRead(-1, 2) ? 1 : 0);
        Check.due(INDEX, () -> x.mayRead(4, 2) ? 1 : 0);
        Check.due(INDEX, () -> x.mayRead(32, 2) ? 1 : 0);
        Check.due(INDEX, () -> x.mayRead(Integer.MIN_VALUE, 2) ? 1 : 0);
    }

    private static void rightsOfAllAbove() {
        Check.promise(9, "in its set, and in those of all folders that it is below");
        SearchKeeper x = deep();
        x.people(0, 14);
        Check.due(false, () -> x.mayRead(0, 59));
        Check.due(false, () -> x.mayRead(0, 1));
        x.people(0, 15);
        x.people(1, 13);
        Check.due(false, () -> x.mayRead(1, 59));
        Check.due(true, () -> x.mayRead(1, 0));
        x.people(58, 11);
        Check.due(false, () -> x.mayRead(2, 59));
        Check.due(true, () -> x.mayRead(2, 57));
        x.people(59, 7);
        Check.due(false, () -> x.mayRead(3, 59));
        Check.due(true, () -> x.mayRead(3, 58));
        Check.due(true, () -> x.mayRead(0, 59));
        Check.promise(9, "sets of what lies beside it, or in it, do not matter");
        SearchKeeper y = Given.files(2);
        y.people(3, 0);
        Check.due(true, () -> y.mayRead(0, 2));
        Check.due(true, () -> y.mayRead(0, 1));
    }

    private static void rightsFollowMoves() {
        Check.promise(9, "where it lies now");
        SearchKeeper x = Given.files(1);
        x.make(0, 's', true);
        x.people(3, 1);
        Check.due(true, () -> x.mayRead(3, 2));
        x.move(2, 3, 'a');
        Check.due(false, () -> x.mayRead(3, 2));
        Check.due(true, () -> x.mayRead(0, 2));
        x.move(2, 1, 'a');
        Check.due(true, () -> x.mayRead(3, 2));
    }

    private static void countOfNodes() {
        Check.promise(10, "how many nodes there are: 1 to 60");
        SearchKeeper x = new SearchKeeper();
        Check.due(1, x::nodes);
        for (int node = 1; node < 60; node++) {
            int each = node;
            x.make((node - 1) / 26, (char) ('a' + (node - 1) % 26), true);
            Check.due(each + 1, x::nodes);
        }
        // The folder 1 holds 27 to 52, and the folder 2 holds 53 to 59.
        Check.due(27, () -> x.remove(1));
        Check.due(33, x::nodes);
        Check.due(8, () -> x.remove(2));
        Check.due(25, x::nodes);
        Check.due(0, () -> x.move(3, 4, 'a'));
        Check.due(25, x::nodes);
    }
}
