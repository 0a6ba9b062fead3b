/** Promises 7 to 11: add, remove, flush, merge and refresh. */
public final class IndexTest {
    public static void main(String[] args) {
        addAnswers();
        addReplaces();
        addTypes();
        addConflicts();
        conflictLeavesNoType();
        removeAnywhere();
        flushKeepsLive();
        mergeInOrder();
        mergeOfDeleted();
        refreshIsASnapshot();
        snapshotOutlivesMerge();
        snapshotShrinks();
        hitsStay();
        Checks.end();
    }

    private static void addAnswers() {
        BlockSearch x = new BlockSearch();
        Checks.due("add, empty draft", x.add(0), BlockSearch.NONE);
        Checks.lay(x, "(0 (1 )");
        Checks.due("add, root not closed", x.add(0), BlockSearch.NONE);
        Checks.due("the draft stays", x.count(1), 2);
        x.close();
        Checks.due("add(0)", x.add(0), 2);
        Checks.due("the draft is empty", x.count(1), 0);
        Checks.due("add twice", x.add(0), BlockSearch.NONE);
        Checks.due("add(19)", Checks.put(x, 19, "(0 )"), 3);
        Checks.due("count(5)", x.count(5), 2);
        Checks.due("count(3)", x.count(3), 2);
    }

    private static void addReplaces() {
        BlockSearch x = new BlockSearch();
        Checks.put(x, 1, "(0 n0:1 )");
        Checks.put(x, 2, "(0 n0:2 )");
        Checks.due("one in the buffer is replaced", Checks.put(x, 1, "(0 n0:3 )"), 3);
        Checks.due("live", x.count(3), 2);
        Checks.due("flush()", x.flush(), 2);
        Checks.same("the new one is the latest", Checks.documents(x, 0), "2 1");
        Checks.due("its number", x.object(0, 1, 10), 3);
        Checks.put(x, 2, "(0 n0:4 )");
        Checks.same("one in a segment is replaced", Checks.documents(x, 0), "-2 1");
        Checks.due("deleted in segments", x.count(4), 1);
        Checks.due("live", x.count(3), 2);
        Checks.due("added", x.count(5), 4);
    }

    private static void addTypes() {
        BlockSearch x = new BlockSearch();
        Checks.put(x, 0, "(0 n0:0 t1:0 (1 n1:5 (2 t3:1 ) ) (3 n0:1 ) (3 n0:2 t1:3 ) )");
        int[][] want = {{1, 2, 0, 0}, {0, 1, 0, 0}, {0, 0, 0, 2}, {1, 2, 0, 0}};
        for (int path = 0; path < 4; path++) {
            for (int f = 0; f < 4; f++) {
                Checks.due("type(" + path + ", " + f + ")", x.type(path, f), want[path][f]);
            }
        }
        Checks.due("count(6)", x.count(6), 6);
        Checks.put(x, 1, "(0 n0:7 t2:7 )");
        Checks.due("type(0, 2)", x.type(0, 2), 2);
        Checks.due("count(6)", x.count(6), 7);
        x.remove(0);
        x.remove(1);
        x.flush();
        Checks.due("types stay", x.type(0, 2), 2);
        Checks.due("count(6) stays", x.count(6), 7);
    }

    private static void addConflicts() {
        BlockSearch x = new BlockSearch();
        Checks.put(x, 0, "(0 n0:1 t1:1 )");
        String before = Checks.picture(x);
        Checks.due("a text for a number", Checks.put(x, 0, "(0 t0:1 n2:3 )"), BlockSearch.CONFLICT);
        Checks.due("the draft stays", x.wipe(), 1);
        Checks.same("a conflict changes nothing", Checks.picture(x), before);
        Checks.due("a number for a text", Checks.put(x, 0, "(0 n1:1 )"), BlockSearch.CONFLICT);
        x.wipe();
        Checks.due("before the conflict a new field", Checks.put(x, 0, "(0 (1 n2:1 ) t0:1 )"), BlockSearch.CONFLICT);
        x.wipe();
        Checks.due("within the draft", Checks.put(x, 0, "(0 (1 t2:1 ) (1 n2:1 ) )"), BlockSearch.CONFLICT);
        x.wipe();
        Checks.due("within it, apart", Checks.put(x, 0, "(0 (1 (2 n0:1 ) ) (1 (2 t0:1 ) ) )"), BlockSearch.CONFLICT);
        x.wipe();
        Checks.same("neither of these", Checks.picture(x), before);
        Checks.due("no type is left of a conflict", Checks.put(x, 3, "(0 (1 (2 t0:1 ) ) )"), 4);
        x.flush();
        Checks.due("different paths", Checks.put(x, 0, "(0 (1 t2:1 ) (3 n2:1 ) )"), 3);
        Checks.due("different fields", Checks.put(x, 1, "(0 (1 t2:1 n3:1 ) )"), 5);
        Checks.due("nothing fits any type", Checks.put(x, 2, "(0 (1 ) (3 ) )"), 8);
    }

    private static void conflictLeavesNoType() {
        BlockSearch x = new BlockSearch();
        Checks.put(x, 0, "(0 n3:1 )");
        Checks.due("a new field before the conflict", Checks.put(x, 1, "(0 n2:1 t3:1 )"), BlockSearch.CONFLICT);
        x.wipe();
        Checks.due("type(0, 2)", x.type(0, 2), 0);
        Checks.due("the other type is taken", Checks.put(x, 1, "(0 t2:1 )"), 2);
        Checks.due("type(0, 2)", x.type(0, 2), 2);
    }

    private static void removeAnywhere() {
        BlockSearch x = new BlockSearch();
        Checks.put(x, 0, "(0 )");
        Checks.put(x, 1, "(0 )");
        x.flush();
        Checks.put(x, 2, "(0 (1 ) )");
        Checks.due("remove(2) in the buffer", x.remove(2), true);
        Checks.due("its objects count", x.count(2), 2);
        Checks.due("remove(2) again", x.remove(2), false);
        Checks.due("remove(1) in a segment", x.remove(1), true);
        Checks.due("remove(1) again", x.remove(1), false);
        Checks.same("it is deleted there", Checks.documents(x, 0), "0 -1");
        Checks.due("its objects count there", x.count(20), 2);
        Checks.due("live", x.count(3), 1);
        for (int id : new int[] {-1, 20, 3, Integer.MIN_VALUE, Integer.MAX_VALUE}) {
            Checks.due("remove(" + id + ")", x.remove(id), false);
        }
        Checks.put(x, 1, "(0 )");
        Checks.due("remove(1), added anew", x.remove(1), true);
        Checks.due("added", x.count(5), 4);
    }

    private static void flushKeepsLive() {
        BlockSearch x = new BlockSearch();
        Checks.put(x, 4, "(0 (1 ) )");
        Checks.put(x, 5, "(0 (1 (2 ) ) )");
        Checks.put(x, 6, "(0 )");
        x.remove(4);
        Checks.due("flush()", x.flush(), 4);
        Checks.same("in their order", Checks.documents(x, 0), "5 6");
        Checks.due("the buffer is empty", x.count(2), 0);
        Checks.due("deleted ones are nowhere", x.count(4), 0);
        Checks.due("merge left none out", x.count(9), 0);
        Checks.put(x, 4, "(0 )");
        Checks.due("flush()", x.flush(), 1);
        Checks.due("segments", x.count(0), 2);
        Checks.same("behind all others", Checks.documents(x, 1), "4");
        Checks.due("live", x.count(3), 3);
        Checks.due("the draft is not flushed", x.open(0), 1);
        Checks.due("flush()", x.flush(), 0);
        Checks.due("count(1)", x.count(1), 1);
    }

    private static BlockSearch fourSegments() {
        BlockSearch x = new BlockSearch();
        for (int i = 0; i < 4; i++) {
            Checks.put(x, 2 * i, "(0 n0:" + i + " (1 ) )");
            Checks.put(x, 2 * i + 1, "(0 n0:" + i + " )");
            x.flush();
        }
        return x;
    }

    private static void mergeInOrder() {
        BlockSearch x = fourSegments();
        x.remove(3);
        x.remove(4);
        x.remove(0);
        Checks.due("merge(1, 2)", x.merge(1, 2), 3);
        Checks.same("before it", Checks.documents(x, 0), "-0 1");
        Checks.same("the merged one", Checks.documents(x, 1), "2 5");
        Checks.same("moved down", Checks.documents(x, 2), "6 7");
        Checks.due("objects", x.count(21), 3);
        Checks.due("left out", x.count(9), 2);
        Checks.due("still deleted in segments", x.count(4), 1);
        Checks.due("none behind", x.count(23), BlockSearch.NONE);
        Checks.due("numbers are new", x.object(1, 0, 1), 1);
        Checks.due("numbers are new", x.object(1, 2, 10), 2);
        Checks.due("merge(1, 2)", x.merge(1, 2), 2);
        Checks.same("merged again", Checks.documents(x, 1), "2 5 6 7");
        Checks.due("remove after a merge", x.remove(6), true);
        Checks.same("it is deleted", Checks.documents(x, 1), "2 5 -6 7");
    }

    private static void mergeOfDeleted() {
        BlockSearch x = fourSegments();
        for (int id = 2; id < 6; id++) {
            x.remove(id);
        }
        Checks.due("merge(1, 2)", x.merge(1, 2), 2);
        Checks.same("moved down by two", Checks.documents(x, 1), "6 7");
        Checks.due("left out", x.count(9), 4);
        Checks.put(x, 6, "(0 )");
        Checks.put(x, 7, "(0 )");
        x.remove(0);
        x.remove(1);
        Checks.due("merge(0, 2)", x.merge(0, 2), 0);
        Checks.due("no segments", x.count(0), 0);
        Checks.due("left out", x.count(9), 8);
        Checks.due("the buffer is not merged", x.count(3), 2);
        Checks.due("flush()", x.flush(), 2);
        Checks.same("the first one again", Checks.documents(x, 0), "6 7");
    }

    private static void refreshIsASnapshot() {
        BlockSearch x = new BlockSearch();
        Checks.due("refresh, empty", x.refresh(), 0);
        Checks.put(x, 0, "(0 n0:1 )");
        Checks.put(x, 1, "(0 n0:2 )");
        Checks.due("the buffer is not seen", x.refresh(), 0);
        x.flush();
        Checks.same("nothing before refresh", Checks.answer(x, Checks.ANY, 0, 0), "");
        Checks.due("refresh()", x.refresh(), 2);
        x.remove(0);
        Checks.put(x, 1, "(0 n0:9 )");
        Checks.same("removes are not seen", Checks.answer(x, Checks.ANY, 0, 0), "0=1 1=1");
        Checks.due("score(0)", x.score(0), 1);
        Checks.same("replacing is not seen", Checks.answer(x, Checks.FROM, 0, 9), "");
        Checks.due("refresh, none live", x.refresh(), 0);
        Checks.due("deleted ones are in it", x.count(7), 2);
        x.flush();
        Checks.due("flush does not change it", x.count(7), 2);
        Checks.due("refresh()", x.refresh(), 1);
        Checks.due("count(7)", x.count(7), 3);
        Checks.same("the new one", Checks.answer(x, Checks.FROM, 0, 9), "1=1");
    }

    private static void snapshotOutlivesMerge() {
        BlockSearch x = fourSegments();
        x.remove(2);
        Checks.due("refresh()", x.refresh(), 7);
        Checks.ask(x, Checks.FROM, 0, 1);
        x.search();
        String before = Checks.found(x);
        x.merge(0, 4);
        x.remove(7);
        Checks.due("search()", x.search(), 5);
        Checks.same("as it was", Checks.found(x), before);
        Checks.same("as it must be", before, "3=1 4=1 5=1 6=1 7=1");
        Checks.due("the segment's number then", x.hit(4, 2), 3);
        Checks.due("count(7)", x.count(7), 8);
        Checks.due("refresh()", x.refresh(), 6);
        Checks.due("count(7), one deleted since", x.count(7), 7);
        x.search();
        Checks.due("the segment's number now", x.hit(3, 2), 0);
    }

    private static void snapshotShrinks() {
        BlockSearch x = fourSegments();
        Checks.due("refresh()", x.refresh(), 8);
        for (int id = 1; id < 8; id++) {
            x.remove(id);
        }
        x.merge(0, 4);
        Checks.due("refresh, one left", x.refresh(), 1);
        Checks.due("count(7)", x.count(7), 1);
        Checks.same("nothing of the older one", Checks.answer(x, Checks.ANY, 0, 0), "0=1");
        Checks.due("score(1)", x.score(1), BlockSearch.NONE);
        x.remove(0);
        Checks.due("refresh, none live", x.refresh(), 0);
        Checks.due("search()", x.search(), 0);
        Checks.due("no hit is left", x.hit(0, 0), BlockSearch.NONE);
    }

    private static void hitsStay() {
        BlockSearch x = fourSegments();
        x.refresh();
        Checks.ask(x, Checks.ANY, 0, 0);
        Checks.due("search()", x.search(), 8);
        x.merge(0, 4);
        x.remove(7);
        x.clear();
        x.refresh();
        Checks.due("hits stay", x.count(8), 8);
        Checks.due("the last one's id", x.hit(7, 0), 7);
        Checks.due("its score", x.hit(7, 1), 1);
        Checks.due("its segment then", x.hit(7, 2), 3);
        Checks.due("its root then", x.hit(7, 3), 2);
        Checks.due("its objects", x.hit(7, 4), 1);
        Checks.due("search, no query", x.search(), BlockSearch.NONE);
        Checks.due("hits stay", x.count(8), 8);
    }
}
