/** Promises 17 to 19: object, type and count. */
public final class FactsTest {
    public static void main(String[] args) {
        objectTree();
        objectFields();
        objectLiveNow();
        typeOfEach();
        countEach();
        readingChangesNothing();
        Checks.end();
    }

    private static BlockSearch tree() {
        BlockSearch x = new BlockSearch();
        Checks.put(x, 11, "(0 n0:-2 )");
        Checks.put(x, 12, "(0 (3 ) (1 (2 ) (2 n1:0 ) ) (1 t2:3,4,5 ) (3 ) n0:7 )");
        x.flush();
        return x;
    }

    private static void objectTree() {
        BlockSearch x = tree();
        int none = BlockSearch.NONE;
        int[][] want = {{0, none, 11, 1, 0}, {3, 7, 12, 1, 1}, {2, 4, 12, 1, 2}, {2, 4, 12, 1, 3}, {1, 7, 12, 1, 2},
            {1, 7, 12, 1, 5}, {3, 7, 12, 1, 6}, {0, none, 12, 1, 1}};
        for (int number = 0; number < want.length; number++) {
            for (int what = 0; what < 5; what++) {
                Checks.due("object(0, " + number + ", " + what + ")", x.object(0, number, what), want[number][what]);
            }
        }
        Checks.due("object(0, 8, 0)", x.object(0, 8, 0), none);
    }

    private static void objectFields() {
        BlockSearch x = tree();
        Checks.due("a number below 0", x.object(0, 0, 10), -2);
        Checks.due("nothing", x.object(0, 0, 11), BlockSearch.NONE);
        Checks.due("the number 0", x.object(0, 3, 11), 0);
        Checks.due("three words", x.object(0, 5, 12), 2003);
        Checks.due("nothing", x.object(0, 5, 13), BlockSearch.NONE);
        Checks.due("put behind the children", x.object(0, 7, 10), 7);
    }

    private static void objectLiveNow() {
        BlockSearch x = tree();
        x.refresh();
        x.remove(12);
        for (int number = 1; number < 8; number++) {
            Checks.due("live", x.object(0, number, 3), 0);
            Checks.due("id", x.object(0, number, 2), 12);
        }
        Checks.due("live", x.object(0, 0, 3), 1);
        Checks.put(x, 1, "(0 (1 n3:4 ) )");
        Checks.due("the buffer is no segment", x.object(1, 0, 0), BlockSearch.NONE);
        x.flush();
        Checks.due("as the segments are now", x.object(1, 0, 13), 4);
        x.merge(0, 2);
        Checks.due("as the segments are now", x.object(0, 1, 13), 4);
        Checks.due("its parent", x.object(0, 1, 1), 2);
        Checks.due("its least", x.object(0, 2, 4), 1);
        Checks.due("no longer there", x.object(1, 0, 0), BlockSearch.NONE);
    }

    private static void typeOfEach() {
        BlockSearch x = tree();
        Checks.due("type(0, 0)", x.type(0, 0), 1);
        Checks.due("type(1, 2)", x.type(1, 2), 2);
        Checks.due("type(2, 1)", x.type(2, 1), 1);
        Checks.due("type(3, 3)", x.type(3, 3), 0);
        Checks.lay(x, "(0 n3:1");
        Checks.due("the draft sets no type", x.type(0, 3), 0);
        x.close();
        Checks.due("the draft sets no type", x.type(0, 3), 0);
    }

    private static void countEach() {
        BlockSearch x = tree();
        Checks.put(x, 1, "(0 )");
        Checks.put(x, 2, "(0 t3:1 (3 ) )");
        x.flush();
        x.remove(12);
        Checks.put(x, 1, "(0 )");
        Checks.put(x, 3, "(0 (1 ) )");
        Checks.put(x, 3, "(0 (1 ) (1 ) )");
        Checks.lay(x, "(0 (1");
        x.refresh();
        Checks.ask(x, Checks.ANY, 0, 0);
        x.search();
        int[] want = {2, 2, 6, 4, 2, 7, 4, 4, 2, 0};
        for (int what = 0; what < want.length; what++) {
            Checks.due("count(" + what + ")", x.count(what), want[what]);
        }
        Checks.due("count(20)", x.count(20), 8);
        Checks.due("count(21)", x.count(21), 3);
        Checks.due("count(22)", x.count(22), BlockSearch.NONE);
        Checks.due("count(30)", x.count(30), 1);
        Checks.due("count(31)", x.count(31), 1);
        Checks.due("count(32)", x.count(32), BlockSearch.NONE);
        x.merge(0, 2);
        int[] after = {1, 2, 6, 4, 0, 7, 4, 4, 2, 2};
        for (int what = 0; what < after.length; what++) {
            Checks.due("count(" + what + ") after a merge", x.count(what), after[what]);
        }
        x.remove(11);
        x.remove(2);
        Checks.due("all deleted, still there", x.count(0), 1);
        Checks.due("count(30), none live", x.count(30), 0);
        Checks.due("count(20)", x.count(20), 3);
    }

    private static void readingChangesNothing() {
        BlockSearch x = tree();
        x.refresh();
        Checks.ask(x, Checks.NEST, 1, 2, Checks.ANY, 0, 0);
        x.search();
        String before = Checks.picture(x);
        Checks.same("read twice", Checks.picture(x), before);
        Checks.due("the query is still whole", x.search(), 1);
    }
}
