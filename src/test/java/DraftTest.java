/** Promises 1 to 6: a new object, and laying down the draft. */
public final class DraftTest {
    public static void main(String[] args) {
        newObject();
        openPaths();
        openRefusals();
        openFull();
        numberEdges();
        numberInPlace();
        wordEdges();
        wordOrderOfTests();
        closeCounts();
        wipeEmpties();
        refusalsChangeNothing();
        Checks.end();
    }

    private static void newObject() {
        BlockSearch x = new BlockSearch();
        for (int what = 0; what <= 9; what++) {
            Checks.due("count(" + what + ")", x.count(what), 0);
        }
        for (int k = 0; k < 6; k++) {
            Checks.due("count(20 + " + k + ")", x.count(20 + k), BlockSearch.NONE);
            Checks.due("count(30 + " + k + ")", x.count(30 + k), BlockSearch.NONE);
        }
        for (int path = 0; path < 4; path++) {
            for (int f = 0; f < 4; f++) {
                Checks.due("type", x.type(path, f), 0);
            }
        }
        Checks.due("hit(0, 0)", x.hit(0, 0), BlockSearch.NONE);
        Checks.due("object(0, 0, 0)", x.object(0, 0, 0), BlockSearch.NONE);
        Checks.due("search()", x.search(), BlockSearch.NONE);
        Checks.due("close()", x.close(), BlockSearch.NONE);
        Checks.due("wipe()", x.wipe(), 0);
        Checks.due("clear()", x.clear(), 0);
        Checks.due("flush()", x.flush(), 0);
        Checks.due("add(0)", x.add(0), BlockSearch.NONE);
        Checks.due("remove(0)", x.remove(0), false);
        Checks.due("merge(0, 2)", x.merge(0, 2), BlockSearch.REFUSED);
        twoObjectsShareNothing();
    }

    private static void twoObjectsShareNothing() {
        BlockSearch x = new BlockSearch();
        BlockSearch y = new BlockSearch();
        String before = Checks.picture(y);
        Checks.put(x, 3, "(0 n0:1 t1:2 )");
        x.flush();
        x.refresh();
        Checks.ask(x, Checks.ANY, 0, 0);
        Checks.due("search()", x.search(), 1);
        Checks.same("another object", Checks.picture(y), before);
        Checks.due("clear()", y.clear(), 0);
    }

    private static void openPaths() {
        BlockSearch x = new BlockSearch();
        for (int path = 1; path < 4; path++) {
            Checks.due("open as root", x.open(path), BlockSearch.NONE);
        }
        Checks.due("open(0)", x.open(0), 1);
        Checks.due("open(0) below 0", x.open(0), BlockSearch.NONE);
        Checks.due("open(2) below 0", x.open(2), BlockSearch.NONE);
        Checks.due("open(1) below 0", x.open(1), 2);
        Checks.due("open(0) below 1", x.open(0), BlockSearch.NONE);
        Checks.due("open(1) below 1", x.open(1), BlockSearch.NONE);
        Checks.due("open(3) below 1", x.open(3), BlockSearch.NONE);
        Checks.due("open(2) below 1", x.open(2), 3);
        for (int path = 0; path < 4; path++) {
            Checks.due("open below 2", x.open(path), BlockSearch.NONE);
        }
        x.close();
        Checks.due("open(2) below 1 again", x.open(2), 4);
        x.close();
        x.close();
        Checks.due("open(3) below 0", x.open(3), 5);
        for (int path = 0; path < 4; path++) {
            Checks.due("open below 3", x.open(path), BlockSearch.NONE);
        }
        x.close();
        Checks.due("count(1)", x.count(1), 5);
        x.close();
        for (int path = 0; path < 4; path++) {
            Checks.due("open on a complete draft", x.open(path), BlockSearch.NONE);
        }
    }

    private static void openRefusals() {
        BlockSearch x = new BlockSearch();
        Checks.due("open(-1)", x.open(-1), BlockSearch.REFUSED);
        Checks.due("open(4)", x.open(4), BlockSearch.REFUSED);
        for (int path : Checks.FAR) {
            Checks.due("open far", x.open(path), BlockSearch.REFUSED);
        }
        Checks.lay(x, "(0 )");
        Checks.due("open(4) on a complete draft", x.open(4), BlockSearch.REFUSED);
        Checks.due("count(1)", x.count(1), 1);
    }

    private static void openFull() {
        BlockSearch x = new BlockSearch();
        Checks.lay(x, "(0 (3 ) (3 ) (3 ) (3 ) (3 ) (3 ) (3 ) (3 )");
        Checks.due("open(1), the tenth", x.open(1), 10);
        Checks.due("open(2), the eleventh", x.open(2), BlockSearch.FULL);
        Checks.due("open(3) where it may not be", x.open(3), BlockSearch.NONE);
        Checks.due("open(9)", x.open(9), BlockSearch.REFUSED);
        Checks.due("close()", x.close(), 1);
        Checks.due("open(3), the eleventh", x.open(3), BlockSearch.FULL);
        Checks.due("close()", x.close(), 0);
        Checks.due("open(3), complete", x.open(3), BlockSearch.NONE);
        Checks.due("add(0)", x.add(0), 10);
        Checks.due("open(0)", x.open(0), 1);
    }

    private static void numberEdges() {
        BlockSearch x = new BlockSearch();
        Checks.due("number, nothing open", x.number(0, 0), false);
        Checks.lay(x, "(0");
        Checks.due("number(0, 1000)", x.number(0, 1000), true);
        Checks.due("number(3, -1000)", x.number(3, -1000), true);
        Checks.due("number(1, 1001)", x.number(1, 1001), false);
        Checks.due("number(1, -1001)", x.number(1, -1001), false);
        Checks.due("number(-1, 0)", x.number(-1, 0), false);
        Checks.due("number(4, 0)", x.number(4, 0), false);
        for (int far : Checks.FAR) {
            Checks.due("number(far, 0)", x.number(far, 0), false);
            Checks.due("number(0, far)", x.number(0, far), false);
        }
        x.close();
        Checks.due("number, complete", x.number(0, 0), false);
        x.add(0);
        Checks.due("number, empty again", x.number(0, 0), false);
        x.flush();
        Checks.due("field 0", x.object(0, 0, 10), 1000);
        Checks.due("field 1", x.object(0, 0, 11), BlockSearch.NONE);
        Checks.due("field 2", x.object(0, 0, 12), BlockSearch.NONE);
        Checks.due("field 3", x.object(0, 0, 13), -1000);
    }

    private static void numberInPlace() {
        BlockSearch x = new BlockSearch();
        Checks.lay(x, "(0 n0:5 n0:-6 t1:3,3 n1:0 (1 n0:9 )");
        Checks.due("number on the outer one again", x.number(2, 4), true);
        Checks.lay(x, ")");
        x.add(0);
        x.flush();
        Checks.due("field 0 of the child", x.object(0, 0, 10), 9);
        Checks.due("field 2 of the child", x.object(0, 0, 12), BlockSearch.NONE);
        Checks.due("field 0", x.object(0, 1, 10), -6);
        Checks.due("field 1", x.object(0, 1, 11), 0);
        Checks.due("field 2", x.object(0, 1, 12), 4);
        Checks.due("type(0, 1)", x.type(0, 1), 1);
        x.refresh();
        Checks.same("no word is left", Checks.answer(x, Checks.HAS, 1, 3), "");
        Checks.same("the number is there", Checks.answer(x, Checks.FROM, 1, 0), "0=1");
    }

    private static void wordEdges() {
        BlockSearch x = new BlockSearch();
        Checks.due("word, nothing open", x.word(0, 0), BlockSearch.NONE);
        Checks.lay(x, "(0");
        for (int i = 1; i <= 8; i++) {
            Checks.due("word " + i, x.word(3, i), i);
        }
        Checks.due("a ninth word", x.word(3, 25), BlockSearch.FULL);
        Checks.due("word(0, 25)", x.word(0, 25), 1);
        Checks.due("word(0, 0)", x.word(0, 0), 2);
        x.close();
        Checks.due("word, complete", x.word(0, 0), BlockSearch.NONE);
        x.add(0);
        x.flush();
        Checks.due("field 3", x.object(0, 0, 13), 2008);
        Checks.due("field 0", x.object(0, 0, 10), 2002);
        x.refresh();
        Checks.same("the last word", Checks.answer(x, Checks.HAS, 3, 8), "0=2");
        Checks.same("a word that did not fit", Checks.answer(x, Checks.HAS, 3, 25), "");
        Checks.same("word 25 of field 0", Checks.answer(x, Checks.HAS, 0, 25), "0=2");
        Checks.same("word 0 of field 0", Checks.answer(x, Checks.HAS, 0, 0), "0=2");
    }

    private static void wordOrderOfTests() {
        BlockSearch x = new BlockSearch();
        int[] badWords = {-1, 26, Integer.MIN_VALUE, Integer.MAX_VALUE};
        int[] badFields = {-1, 4, Integer.MIN_VALUE, Integer.MAX_VALUE};
        for (int bad : badWords) {
            Checks.due("bad word, nothing open", x.word(0, bad), BlockSearch.REFUSED);
        }
        for (int bad : badFields) {
            Checks.due("bad field, nothing open", x.word(bad, 0), BlockSearch.REFUSED);
        }
        Checks.lay(x, "(0 n1:8");
        Checks.due("word on a number", x.word(1, 5), BlockSearch.CONFLICT);
        Checks.due("word on the number 8 keeps it", x.word(1, 5), BlockSearch.CONFLICT);
        Checks.due("bad word on a number", x.word(1, 26), BlockSearch.REFUSED);
        Checks.lay(x, "t0:1,1,1,1,1,1,1,1");
        Checks.due("bad word on a full text", x.word(0, 26), BlockSearch.REFUSED);
        Checks.due("word on a full text", x.word(0, 1), BlockSearch.FULL);
        Checks.lay(x, "n0:-3");
        Checks.due("word where a full text was", x.word(0, 1), BlockSearch.CONFLICT);
    }

    private static void closeCounts() {
        BlockSearch x = new BlockSearch();
        Checks.due("close, empty", x.close(), BlockSearch.NONE);
        Checks.lay(x, "(0 (1 (2");
        Checks.due("close", x.close(), 2);
        Checks.lay(x, "(2");
        Checks.due("close", x.close(), 2);
        Checks.due("close", x.close(), 1);
        Checks.due("open one is the root", x.open(3), 5);
        Checks.due("close", x.close(), 1);
        Checks.due("close", x.close(), 0);
        Checks.due("close, complete", x.close(), BlockSearch.NONE);
        Checks.due("count(1)", x.count(1), 5);
        Checks.due("add(1)", x.add(1), 5);
        Checks.due("close, added", x.close(), BlockSearch.NONE);
    }

    private static void wipeEmpties() {
        BlockSearch x = new BlockSearch();
        Checks.due("wipe, empty", x.wipe(), 0);
        Checks.lay(x, "(0 n0:1 (1 (2");
        Checks.due("wipe, three open", x.wipe(), 3);
        Checks.due("wipe again", x.wipe(), 0);
        Checks.due("close, wiped", x.close(), BlockSearch.NONE);
        Checks.due("word, wiped", x.word(0, 0), BlockSearch.NONE);
        Checks.due("count(1)", x.count(1), 0);
        Checks.lay(x, "(0 )");
        Checks.due("wipe, complete", x.wipe(), 1);
        Checks.due("add, wiped", x.add(0), BlockSearch.NONE);
        Checks.due("a new draft", Checks.put(x, 0, "(0 t0:4 )"), 1);
        Checks.due("type(0, 0)", x.type(0, 0), 2);
        Checks.due("count(6)", x.count(6), 1);
        x.flush();
        Checks.due("the least number is new too", x.object(0, 0, 4), 0);
    }

    private static void refusalsChangeNothing() {
        BlockSearch x = new BlockSearch();
        Checks.lay(x, "(0 n0:1 t1:2 (1");
        x.open(4);
        x.open(3);
        x.number(0, 1001);
        x.number(4, 1);
        x.word(1, 26);
        Checks.lay(x, "n0:7");
        x.word(0, 3);
        Checks.lay(x, ")");
        x.word(0, 3);
        Checks.lay(x, ")");
        x.close();
        x.number(0, 9);
        x.word(1, 2);
        Checks.due("add(0)", x.add(0), 2);
        x.flush();
        Checks.due("field 0 of the child", x.object(0, 0, 10), 7);
        Checks.due("field 0", x.object(0, 1, 10), 1);
        Checks.due("field 1", x.object(0, 1, 11), 2001);
        Checks.due("field 2", x.object(0, 1, 12), BlockSearch.NONE);
    }
}
