/** States that several tests begin with, and what they do again and again. */
final class Given {
    private Given() { }

    /** A root 1 (r) with the files 2 (a), 3 (b) and so on; nothing is known yet. */
    static SearchKeeper files(int many) {
        return root(many, false);
    }

    /** A root 1 (r) with the folders 2 (a), 3 (b) and so on; nothing is known yet. */
    static SearchKeeper folders(int many) {
        return root(many, true);
    }

    private static SearchKeeper root(int many, boolean areFolders) {
        SearchKeeper x = new SearchKeeper();
        x.make(0, 'r', true);
        for (int i = 0; i < many; i++) {
            x.make(1, (char) ('a' + i), areFolders);
        }
        x.watch(1);
        return x;
    }

    /** A root 1 (r) with files 2 (f), 3 (g), and a folder 4 (a) with a file 5 (h); none is known. */
    static SearchKeeper house() {
        SearchKeeper x = new SearchKeeper();
        x.make(0, 'r', true);
        x.make(1, 'f', false);
        x.make(1, 'g', false);
        x.make(1, 'a', true);
        x.make(4, 'h', false);
        x.watch(1);
        return x;
    }

    /** Folders 1 (r), 2 (s), 3 (t), 4 (u) at the top; in 1 the folder 5 (a), in that the file 6 (f). */
    static SearchKeeper four() {
        SearchKeeper x = new SearchKeeper();
        x.make(0, 'r', true);
        x.make(0, 's', true);
        x.make(0, 't', true);
        x.make(0, 'u', true);
        x.make(1, 'a', true);
        x.make(5, 'f', false);
        return x;
    }

    static SearchKeeper worked(SearchKeeper x) {
        x.work(500);
        return x;
    }

    /** A file 2 (a) with a text in a root 1 (r), read by these limits. */
    static SearchKeeper text(int depth, int words, int... marks) {
        SearchKeeper x = new SearchKeeper();
        x.make(0, 'r', true);
        x.make(1, 'a', false);
        fill(x, 2, marks);
        x.limits(depth, words);
        x.watch(1);
        return worked(x);
    }

    static void fill(SearchKeeper x, int file, int... marks) {
        for (int mark : marks) {
            x.write(file, mark);
        }
    }

    static void empty(SearchKeeper x, int file, int times) {
        for (int i = 0; i < times; i++) {
            x.empty(file);
        }
    }

    static void flood(SearchKeeper x, int file) {
        empty(x, file, 9);
    }

    static void remove(SearchKeeper x, int... nodes) {
        for (int node : nodes) {
            x.remove(node);
        }
    }

    /** Each of these files gets one more edition, and is read, all in one work. */
    static void reread(SearchKeeper x, int... files) {
        for (int file : files) {
            x.empty(file);
        }
        x.work(500);
    }
}
