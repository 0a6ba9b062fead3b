/** Promises 1 to 6: a new object, and laying down the draft. */
public final class DraftTest {
    public static void main(String[] args) {
        twoObjectsShareNothing();
        openPaths();
        numberInPlace();
        wordsBehindOneAnother();
        closeCounts();
        wipeEmpties();
        Checks.end();
    }

    private static void twoObjectsShareNothing() {
        BlockSearch x = new BlockSearch();
        BlockSearch y = new BlockSearch();
        String before = Checks.picture(y);
        Checks.put(x, 3, "(0 n0:1 t1:2 )");
        x.flush();
        x.refresh();
        Checks.ask(x, Checks.ANY, 0, 0);
        Checks.due("search()", x.search(), 1);
        Checks.same("another object", Checks.picture(y), before);
        Checks.due("clear()", y.clear(), 0);
    }

    private static void openPaths() {
        BlockSearch x = new BlockSearch();
        for (int path = 1; path < 4; path++) {
            Checks.due("open as root", x.open(path), BlockSearch.NONE);
        }
        Checks.due("open(0)", x.open(0), 1);
        Checks.due("open(0) below 0", x.open(0), BlockSearch.NONE);
        Checks.due("open(2) below 0", x.open(2), BlockSearch.NONE);
        Checks.due("open(1) below 0", x.open(1), 2);
        Checks.due("open(0) below 1", x.open(0), BlockSearch.NONE);
        Checks.due("open(1) below 1", x.open(1), BlockSearch.NONE);
        Checks.due("open(3) below 1", x.open(3), BlockSearch.NONE);
        Checks.due("open(2) below 1", x.open(2), 3);
        for (int path = 0; path < 4; path++) {
            Checks.due("open below 2", x.open(path), BlockSearch.NONE);
        }
        x.close();
        Checks.due("open(2) below 1 again", x.open(2), 4);
        x.close();
        x.close();
        Checks.due("open(3) below 0", x.open(3), 5);
        for (int path = 0; path < 4; path++) {
            Checks.due("open below 3", x.open(path), BlockSearch.NONE);
        }
        x.close();
        Checks.due("count(1)", x.count(1), 5);
        x.close();
        for (int path = 0; path < 4; path++) {
            Checks.due("open on a complete draft", x.open(path), BlockSearch.NONE);
        }
    }

    private static void numberInPlace() {
        BlockSearch x = new BlockSearch();
        Checks.lay(x, "(0 n0:5 n0:-6 t1:3,3 n1:0 (1 n0:9 )");
        Checks.due("number on the outer one again", x.number(2, 4), true);
        Checks.lay(x, ")");
        x.add(0);
        x.flush();
        Checks.due("field 0 of the child", x.object(0, 0, 10), 9);
        Checks.due("field 2 of the child", x.object(0, 0, 12), BlockSearch.NONE);
        Checks.due("field 0", x.object(0, 1, 10), -6);
        Checks.due("field 1", x.object(0, 1, 11), 0);
        Checks.due("field 2", x.object(0, 1, 12), 4);
        Checks.due("type(0, 1)", x.type(0, 1), 1);
        x.refresh();
        Checks.same("no word is left", Checks.answer(x, Checks.HAS, 1, 3), "");
        Checks.same("the number is there", Checks.answer(x, Checks.FROM, 1, 0), "0=1");
    }

    private static void wordsBehindOneAnother() {
        BlockSearch x = new BlockSearch();
        Checks.lay(x, "(0");
        Checks.due("word(1, 4)", x.word(1, 4), 1);
        Checks.due("word(1, 9)", x.word(1, 9), 2);
        Checks.lay(x, "(1");
        Checks.due("word(1, 4) of the child", x.word(1, 4), 1);
        Checks.lay(x, ")");
        Checks.due("word(1, 4) of the outer one again", x.word(1, 4), 3);
        Checks.due("word(0, 4)", x.word(0, 4), 1);
        Checks.lay(x, ")");
        x.add(0);
        x.flush();
        Checks.due("the child's words", x.object(0, 0, 11), 2001);
        Checks.due("the root's words", x.object(0, 1, 11), 2003);
        x.refresh();
        Checks.same("twice", Checks.answer(x, Checks.HAS, 1, 4), "0=4");
        Checks.same("once", Checks.answer(x, Checks.HAS, 1, 9), "0=2");
    }

    private static void closeCounts() {
        BlockSearch x = new BlockSearch();
        Checks.due("close, empty", x.close(), BlockSearch.NONE);
        Checks.lay(x, "(0 (1 (2");
        Checks.due("close", x.close(), 2);
        Checks.lay(x, "(2");
        Checks.due("close", x.close(), 2);
        Checks.due("close", x.close(), 1);
        Checks.due("open one is the root", x.open(3), 5);
        Checks.due("close", x.close(), 1);
        Checks.due("close", x.close(), 0);
        Checks.due("close, complete", x.close(), BlockSearch.NONE);
        Checks.due("count(1)", x.count(1), 5);
        Checks.due("add(1)", x.add(1), 5);
        Checks.due("close, added", x.close(), BlockSearch.NONE);
    }

    private static void wipeEmpties() {
        BlockSearch x = new BlockSearch();
        Checks.due("wipe, empty", x.wipe(), 0);
        Checks.lay(x, "(0 n0:1 (1 (2");
        Checks.due("wipe, three open", x.wipe(), 3);
        Checks.due("wipe again", x.wipe(), 0);
        Checks.due("close, wiped", x.close(), BlockSearch.NONE);
        Checks.due("word, wiped", x.word(0, 0), BlockSearch.NONE);
        Checks.due("count(1)", x.count(1), 0);
        Checks.lay(x, "(0 )");
        Checks.due("wipe, complete", x.wipe(), 1);
        Checks.due("add, wiped", x.add(0), BlockSearch.NONE);
        Checks.due("a new draft", Checks.put(x, 0, "(0 t0:4 )"), 1);
        Checks.due("type(0, 0)", x.type(0, 0), 2);
        Checks.due("count(6)", x.count(6), 1);
        x.flush();
        Checks.due("the least number is new too", x.object(0, 0, 4), 0);
    }
}
