/** The edges that promises 1 to 6 name: at each one and on both sides of it. */
public final class DraftEdgesTest {
    private static final int REFUSED = BlockSearch.REFUSED;
    private static final int NONE = BlockSearch.NONE;
    private static final int FULL = BlockSearch.FULL;
    private static final int CONFLICT = BlockSearch.CONFLICT;

    /** Ten objects, in three forms: wide, wide of the other path, and deep. */
    private static final String[] TENS = {
        "(0 (3 ) (3 ) (3 ) (3 ) (3 ) (3 ) (3 ) (3 ) (3 ) )",
        "(0 (1 ) (1 ) (1 ) (1 ) (1 ) (1 ) (1 ) (1 ) (1 ) )",
        "(0 (1 (2 ) (2 ) (2 ) (2 ) (2 ) (2 ) (2 ) (2 ) ) )"};

    public static void main(String[] args) {
        newDraftIsEmpty();
        newMappingIsEmpty();
        newBufferIsEmpty();
        newQueryIsEmpty();
        newHasNoSegments();
        newHasNoSnapshot();
        newHasNoHits();
        openTakesPathsZeroToThree();
        openBeginsWithTheRoot();
        openBelowEachPath();
        openNotWhenComplete();
        openTenAtMost();
        openTestsInOrder();
        numberTakesFieldsZeroToThree();
        numberTakesAThousandEachWay();
        numberInPlaceOfWhatWasThere();
        numberNeedsAnOpenObject();
        wordTakesFieldsZeroToThree();
        wordTakesWordsZeroToTwentyFive();
        wordEightAtMost();
        wordIsNewWhereNothingWas();
        wordNeedsAnOpenObject();
        wordNotOnANumber();
        wordTestsInOrder();
        closeCountsDownToNone();
        closeNeedsAnOpenObject();
        wipeOfEachSize();
        wipeLeavesTheRest();
        Checks.end();
    }

    private static void newDraftIsEmpty() {
        Checks.about("1: The DRAFT is empty");
        BlockSearch x = new BlockSearch();
        Checks.due("count(1)", x.count(1), 0);
        Checks.due("close()", x.close(), NONE);
        Checks.due("number(0, 0)", x.number(0, 0), false);
        Checks.due("word(0, 0)", x.word(0, 0), NONE);
        Checks.due("add(0)", x.add(0), NONE);
        Checks.due("wipe()", x.wipe(), 0);
        Checks.due("open(1)", x.open(1), NONE);
        Checks.due("open(0)", x.open(0), 1);
    }

    private static void newMappingIsEmpty() {
        Checks.about("1: The MAPPING is empty");
        BlockSearch x = new BlockSearch();
        Checks.due("count(6)", x.count(6), 0);
        for (int path = 0; path < 4; path++) {
            for (int f = 0; f < 4; f++) {
                Checks.due("type(" + path + ", " + f + ")", x.type(path, f), 0);
            }
        }
        String fields = "X0:1 X1:1 X2:1 X3:1 ";
        String tree = "(0 " + fields + "(1 " + fields + "(2 " + fields + ") ) (3 " + fields + ") )";
        Checks.due("numbers everywhere", Checks.put(new BlockSearch(), 0, tree.replace('X', 'n')), 4);
        Checks.due("texts everywhere", Checks.put(new BlockSearch(), 0, tree.replace('X', 't')), 4);
    }

    private static void newBufferIsEmpty() {
        Checks.about("1: The BUFFER is empty");
        BlockSearch x = new BlockSearch();
        Checks.due("count(2)", x.count(2), 0);
        Checks.due("count(3)", x.count(3), 0);
        Checks.due("count(5)", x.count(5), 0);
        for (int id = 0; id < 20; id++) {
            Checks.due("remove(" + id + ")", x.remove(id), false);
        }
        Checks.due("flush()", x.flush(), 0);
        Checks.due("the first add", Checks.put(x, 0, "(0 )"), 1);
    }

    private static void newQueryIsEmpty() {
        Checks.about("1: The QUERY is empty");
        BlockSearch x = new BlockSearch();
        Checks.due("clear()", x.clear(), 0);
        x.refresh();
        Checks.due("search()", x.search(), NONE);
        Checks.due("a NEST at path 0", x.token(Checks.NEST, 1, 0), 1);
        Checks.due("clear()", x.clear(), 1);
    }

    private static void newHasNoSegments() {
        Checks.about("1: no SEGMENTS");
        BlockSearch x = new BlockSearch();
        Checks.due("count(0)", x.count(0), 0);
        Checks.due("count(4)", x.count(4), 0);
        Checks.due("count(9)", x.count(9), 0);
        for (int k = 0; k < 6; k++) {
            Checks.due("count(20 + " + k + ")", x.count(20 + k), NONE);
            Checks.due("count(30 + " + k + ")", x.count(30 + k), NONE);
            Checks.due("object(" + k + ", 0, 0)", x.object(k, 0, 0), NONE);
        }
        for (int many = 2; many <= 6; many++) {
            Checks.due("merge(0, " + many + ")", x.merge(0, many), REFUSED);
        }
    }

    private static void newHasNoSnapshot() {
        Checks.about("1: no SNAPSHOT");
        BlockSearch x = new BlockSearch();
        Checks.due("count(7)", x.count(7), 0);
        Checks.ask(x, Checks.ANY, 0, 0);
        Checks.due("search()", x.search(), NONE);
        Checks.due("score(0)", x.score(0), NONE);
        Checks.put(x, 0, "(0 )");
        x.flush();
        Checks.due("search, not refreshed yet", x.search(), NONE);
        Checks.due("score, not refreshed yet", x.score(0), NONE);
        x.refresh();
        Checks.due("search, refreshed", x.search(), 1);
        Checks.due("score, refreshed", x.score(0), 1);
    }

    private static void newHasNoHits() {
        Checks.about("1: no HITS");
        BlockSearch x = new BlockSearch();
        Checks.due("count(8)", x.count(8), 0);
        for (int what = 0; what < 5; what++) {
            Checks.due("hit(0, " + what + ")", x.hit(0, what), NONE);
        }
    }

    private static void openTakesPathsZeroToThree() {
        Checks.about("2: path (0 to 3)");
        BlockSearch x = new BlockSearch();
        openRefuses(x, "an empty draft");
        Checks.due("open(0)", x.open(0), 1);
        openRefuses(x, "an open draft");
        Checks.due("open(3)", x.open(3), 2);
        Checks.lay(x, ") )");
        openRefuses(x, "a complete draft");
    }

    private static void openRefuses(BlockSearch x, String when) {
        Checks.due("open(-1), " + when, x.open(-1), REFUSED);
        Checks.due("open(4), " + when, x.open(4), REFUSED);
        for (int far : Checks.FAR) {
            Checks.due("open(" + far + "), " + when, x.open(far), REFUSED);
        }
    }

    private static void openBeginsWithTheRoot() {
        Checks.about("2: path is not as it must be there (0 for an empty DRAFT)");
        BlockSearch x = new BlockSearch();
        for (int round = 0; round < 3; round++) {
            for (int path = 1; path <= 3; path++) {
                Checks.due("open(" + path + ") as the root", x.open(path), NONE);
            }
            Checks.due("open(0) as the root", x.open(0), 1);
            Checks.due("open(0) below the root", x.open(0), NONE);
            if (round == 0) {
                Checks.due("wipe()", x.wipe(), 1);
            } else {
                x.close();
                Checks.due("add(0)", x.add(0), round);
            }
        }
    }

    private static void openBelowEachPath() {
        Checks.about("2: else a PATH whose PARENT is that of the OPEN one");
        String[] towards = {"(0", "(0 (1", "(0 (1 (2", "(0 (3"};
        boolean[][] takes = {{false, true, false, true}, {false, false, true, false}, new boolean[4], new boolean[4]};
        for (int above = 0; above < 4; above++) {
            for (int path = 0; path < 4; path++) {
                BlockSearch x = new BlockSearch();
                Checks.lay(x, towards[above]);
                int had = x.count(1);
                Checks.due("open(" + path + ") below " + above, x.open(path), takes[above][path] ? had + 1 : NONE);
                Checks.due("count(1)", x.count(1), takes[above][path] ? had + 1 : had);
            }
        }
    }

    private static void openNotWhenComplete() {
        Checks.about("2: NONE if the DRAFT is COMPLETE");
        for (String tree : new String[] {"(0 )", "(0 (1 ) )", TENS[0], TENS[1], TENS[2]}) {
            BlockSearch x = new BlockSearch();
            Checks.lay(x, tree);
            for (int path = 0; path < 4; path++) {
                Checks.due("open(" + path + ")", x.open(path), NONE);
            }
        }
        BlockSearch x = new BlockSearch();
        Checks.lay(x, "(0 (1 )");
        Checks.due("open(1), all but the root closed", x.open(1), 3);
    }

    private static void openTenAtMost() {
        Checks.about("2: FULL if it has 10");
        int[] paths = {3, 1, 2};
        for (int form = 0; form < 3; form++) {
            BlockSearch x = new BlockSearch();
            Checks.due("open(0)", x.open(0), 1);
            if (form == 2) {
                Checks.due("open(1)", x.open(1), 2);
            }
            for (int i = x.count(1) + 1; i <= 10; i++) {
                Checks.due("open, number " + i, x.open(paths[form]), i);
                x.close();
            }
            Checks.due("an eleventh", x.open(paths[form]), FULL);
            Checks.due("an eleventh again", x.open(paths[form]), FULL);
            Checks.due("count(1)", x.count(1), 10);
            x.close();
            x.close();
            Checks.due("the ten are added", x.add(0), 10);
        }
        BlockSearch x = new BlockSearch();
        Checks.lay(x, "(0 (3 ) (3 ) (3 ) (3 ) (3 ) (3 ) (3 ) (3 )");
        Checks.due("a tenth that stays open", x.open(1), 10);
        Checks.due("an eleventh below it", x.open(2), FULL);
        Checks.due("close()", x.close(), 1);
        Checks.due("an eleventh below the root", x.open(1), FULL);
    }

    private static void openTestsInOrder() {
        Checks.about("REFUSED is tested first, then what the call names, in that order");
        BlockSearch x = new BlockSearch();
        Checks.lay(x, "(0 (3 ) (3 ) (3 ) (3 ) (3 ) (3 ) (3 ) (3 ) (1");
        Checks.due("REFUSED before FULL", x.open(4), REFUSED);
        Checks.due("NONE before FULL", x.open(0), NONE);
        Checks.due("NONE before FULL", x.open(1), NONE);
        Checks.due("NONE before FULL", x.open(3), NONE);
        Checks.due("FULL", x.open(2), FULL);
        Checks.lay(x, ") )");
        Checks.due("REFUSED before NONE", x.open(-1), REFUSED);
        Checks.due("NONE before FULL, complete", x.open(1), NONE);
    }

    private static void numberTakesFieldsZeroToThree() {
        Checks.about("3: FIELD f (0 to 3)");
        BlockSearch x = new BlockSearch();
        Checks.lay(x, "(0");
        Checks.due("number(-1, 5)", x.number(-1, 5), false);
        Checks.due("number(4, 5)", x.number(4, 5), false);
        for (int far : Checks.FAR) {
            Checks.due("number(" + far + ", 5)", x.number(far, 5), false);
        }
        Checks.due("number(0, 5)", x.number(0, 5), true);
        Checks.due("number(3, 6)", x.number(3, 6), true);
        Checks.lay(x, ")");
        x.add(0);
        x.flush();
        int[] want = {5, NONE, NONE, 6};
        for (int f = 0; f < 4; f++) {
            Checks.due("field " + f, x.object(0, 0, 10 + f), want[f]);
        }
    }

    private static void numberTakesAThousandEachWay() {
        Checks.about("3: the NUMBER v (-1000 to 1000)");
        int[] values = {-1001, -1000, -999, -1, 0, 1, 999, 1000, 1001, Integer.MIN_VALUE, Integer.MAX_VALUE};
        for (int v : values) {
            BlockSearch x = new BlockSearch();
            Checks.lay(x, "(0 n1:7");
            boolean good = v >= -1000 && v <= 1000;
            Checks.due("number(1, " + v + ")", x.number(1, v), good);
            Checks.lay(x, ")");
            x.add(0);
            x.flush();
            Checks.due("the field after number(1, " + v + ")", x.object(0, 0, 11), good ? v : 7);
        }
    }

    private static void numberInPlaceOfWhatWasThere() {
        Checks.about("3: in place of what it had");
        String[] had = {"", "n2:9 ", "n2:-1000 ", "t2:9 ", "t2:9,9,9,9,9,9,9,9 "};
        for (String before : had) {
            BlockSearch x = new BlockSearch();
            Checks.lay(x, "(0 " + before + "n2:4 )");
            Checks.due("add(0)", x.add(0), 1);
            Checks.due("type(0, 2)", x.type(0, 2), 1);
            x.flush();
            Checks.due("field 2", x.object(0, 0, 12), 4);
            x.refresh();
            Checks.same("no word is left", Checks.answer(x, Checks.HAS, 2, 9), "");
            Checks.same("no other number is left", Checks.answer(x, Checks.FROM, 2, 5), "");
            Checks.same("no other number is left", Checks.answer(x, Checks.UPTO, 2, 3), "");
        }
    }

    private static void numberNeedsAnOpenObject() {
        Checks.about("3: false if no OBJECT is OPEN");
        BlockSearch x = new BlockSearch();
        Checks.due("empty", x.number(0, 1), false);
        Checks.lay(x, "(0 (1 )");
        Checks.due("the root is open", x.number(0, 1), true);
        Checks.lay(x, ")");
        Checks.due("complete", x.number(0, 2), false);
        x.add(0);
        Checks.due("added", x.number(0, 3), false);
        x.flush();
        Checks.due("as it was when it was closed", x.object(0, 1, 10), 1);
        Checks.due("the child has nothing", x.object(0, 0, 10), NONE);
        Checks.lay(x, "(0 (1");
        x.wipe();
        Checks.due("wiped", x.number(0, 1), false);
    }

    private static void wordTakesFieldsZeroToThree() {
        Checks.about("4: FIELD f (0 to 3)");
        BlockSearch x = new BlockSearch();
        Checks.lay(x, "(0");
        Checks.due("word(-1, 5)", x.word(-1, 5), REFUSED);
        Checks.due("word(4, 5)", x.word(4, 5), REFUSED);
        for (int far : Checks.FAR) {
            Checks.due("word(" + far + ", 5)", x.word(far, 5), REFUSED);
        }
        Checks.due("word(0, 5)", x.word(0, 5), 1);
        Checks.due("word(3, 5)", x.word(3, 5), 1);
        Checks.due("word(3, 6)", x.word(3, 6), 2);
        Checks.lay(x, ")");
        x.add(0);
        x.flush();
        int[] want = {2001, NONE, NONE, 2002};
        for (int f = 0; f < 4; f++) {
            Checks.due("field " + f, x.object(0, 0, 10 + f), want[f]);
        }
    }

    private static void wordTakesWordsZeroToTwentyFive() {
        Checks.about("4: the WORD w (0 to 25)");
        for (int w : new int[] {-1, 0, 1, 24, 25, 26, Integer.MIN_VALUE, Integer.MAX_VALUE}) {
            BlockSearch x = new BlockSearch();
            Checks.lay(x, "(0 t0:7");
            boolean good = w >= 0 && w <= 25;
            Checks.due("word(0, " + w + ")", x.word(0, w), good ? 2 : REFUSED);
            Checks.lay(x, ")");
            x.add(0);
            x.flush();
            Checks.due("the field after word(0, " + w + ")", x.object(0, 0, 10), good ? 2002 : 2001);
            x.refresh();
            if (good) {
                Checks.same("the word is there", Checks.answer(x, Checks.HAS, 0, w), "0=2");
            }
            Checks.same("the first word is still there", Checks.answer(x, Checks.HAS, 0, 7), "0=2");
        }
    }

    private static void wordEightAtMost() {
        Checks.about("4: FULL if it has 8");
        BlockSearch x = new BlockSearch();
        Checks.lay(x, "(0");
        for (int i = 1; i <= 8; i++) {
            Checks.due("word number " + i, x.word(3, i), i);
        }
        Checks.due("a ninth", x.word(3, 9), FULL);
        Checks.due("a ninth that it has", x.word(3, 1), FULL);
        Checks.due("another field", x.word(2, 9), 1);
        Checks.lay(x, "(1");
        Checks.due("the same field of another object", x.word(3, 9), 1);
        Checks.lay(x, ")");
        Checks.due("still full", x.word(3, 9), FULL);
        Checks.lay(x, ")");
        x.add(0);
        x.flush();
        Checks.due("eight words", x.object(0, 1, 13), 2008);
        x.refresh();
        for (int w = 0; w <= 9; w++) {
            Checks.same("word " + w, Checks.answer(x, Checks.HAS, 3, w), w >= 1 && w <= 8 ? "0=2" : "");
        }
    }

    private static void wordIsNewWhereNothingWas() {
        Checks.about("4: its TEXT (which is new if it had nothing)");
        BlockSearch x = new BlockSearch();
        for (int round = 1; round <= 3; round++) {
            Checks.lay(x, "(0");
            for (int f = 0; f < 4; f++) {
                Checks.due("the first word", x.word(f, 2), 1);
                Checks.due("the second word", x.word(f, 2), 2);
            }
            Checks.lay(x, "(1");
            Checks.due("the child's first word", x.word(0, 2), 1);
            Checks.lay(x, ") )");
            Checks.due("add", x.add(round), 2 * round);
        }
        Checks.lay(x, "(0 t0:2");
        x.wipe();
        Checks.lay(x, "(0");
        Checks.due("the first word, after a wipe", x.word(0, 2), 1);
    }

    private static void wordNeedsAnOpenObject() {
        Checks.about("4: NONE if no OBJECT is OPEN");
        BlockSearch x = new BlockSearch();
        Checks.due("empty", x.word(0, 1), NONE);
        Checks.lay(x, "(0 (1 )");
        Checks.due("the root is open", x.word(0, 1), 1);
        Checks.lay(x, ")");
        Checks.due("complete", x.word(0, 1), NONE);
        x.add(0);
        Checks.due("added", x.word(0, 1), NONE);
        x.flush();
        Checks.due("as it was when it was closed", x.object(0, 1, 10), 2001);
        Checks.due("the child has nothing", x.object(0, 0, 10), NONE);
        Checks.lay(x, "(0 (1");
        x.wipe();
        Checks.due("wiped", x.word(0, 1), NONE);
    }

    private static void wordNotOnANumber() {
        Checks.about("4: CONFLICT if the FIELD has a NUMBER");
        for (int v : new int[] {-1000, -1, 0, 1, 7, 8, 9, 1000}) {
            BlockSearch x = new BlockSearch();
            Checks.lay(x, "(0 n0:" + v);
            Checks.due("a word on " + v, x.word(0, 3), CONFLICT);
            Checks.due("a word on " + v + " again", x.word(0, 3), CONFLICT);
            Checks.due("a word on the field beside it", x.word(1, 3), 1);
            Checks.lay(x, ")");
            x.add(0);
            x.flush();
            Checks.due("the number stays", x.object(0, 0, 10), v);
        }
        BlockSearch x = new BlockSearch();
        Checks.lay(x, "(0 t0:1,1,1,1,1,1,1,1 n0:5");
        Checks.due("a word on a number where a full text was", x.word(0, 1), CONFLICT);
    }

    private static void wordTestsInOrder() {
        Checks.about("REFUSED is tested first, then what the call names, in that order");
        BlockSearch x = new BlockSearch();
        Checks.due("REFUSED before NONE, field", x.word(4, 0), REFUSED);
        Checks.due("REFUSED before NONE, word", x.word(0, 26), REFUSED);
        Checks.lay(x, "(0 n0:1 t1:1,1,1,1,1,1,1,1");
        Checks.due("REFUSED before CONFLICT", x.word(0, -1), REFUSED);
        Checks.due("REFUSED before FULL", x.word(1, 26), REFUSED);
        Checks.lay(x, ")");
        Checks.due("NONE before CONFLICT", x.word(0, 1), NONE);
        Checks.due("NONE before FULL", x.word(1, 1), NONE);
    }

    private static void closeCountsDownToNone() {
        Checks.about("5: how many are still not closed");
        BlockSearch x = new BlockSearch();
        Checks.lay(x, "(0 (1 (2");
        Checks.due("three open", x.close(), 2);
        Checks.due("two open", x.close(), 1);
        Checks.due("one open", x.close(), 0);
        Checks.due("none open", x.close(), NONE);
        Checks.due("closed ones still count", x.count(1), 3);
        x.wipe();
        Checks.lay(x, TENS[0].substring(0, TENS[0].length() - 2));
        Checks.due("the root of ten", x.close(), 0);
        x.wipe();
        Checks.lay(x, "(0");
        Checks.due("the root alone", x.close(), 0);
    }

    private static void closeNeedsAnOpenObject() {
        Checks.about("5: NONE if no OBJECT is OPEN");
        BlockSearch x = new BlockSearch();
        Checks.due("empty", x.close(), NONE);
        Checks.lay(x, "(0 )");
        Checks.due("complete", x.close(), NONE);
        Checks.due("complete, again", x.close(), NONE);
        Checks.due("it is still complete", x.add(0), 1);
        Checks.due("added", x.close(), NONE);
        Checks.lay(x, "(0 (1");
        x.wipe();
        Checks.due("wiped", x.close(), NONE);
    }

    private static void wipeOfEachSize() {
        Checks.about("6: The DRAFT is empty: how many OBJECTS it had");
        BlockSearch x = new BlockSearch();
        Checks.due("of none", x.wipe(), 0);
        String[] trees = {"(0", "(0 )", "(0 (1", "(0 (1 )", "(0 (1 ) )", "(0 (1 (2"};
        int[] sizes = {1, 1, 2, 2, 2, 3};
        for (int i = 0; i < trees.length; i++) {
            Checks.lay(x, trees[i]);
            Checks.due("of " + trees[i], x.wipe(), sizes[i]);
            Checks.due("again", x.wipe(), 0);
            Checks.due("count(1)", x.count(1), 0);
            Checks.due("add(0)", x.add(0), NONE);
        }
        for (String ten : TENS) {
            Checks.lay(x, ten);
            Checks.due("of ten", x.wipe(), 10);
            Checks.due("again", x.wipe(), 0);
        }
        Checks.due("ten more have room", Checks.put(x, 0, TENS[2]), 10);
        x.flush();
        Checks.due("numbers begin at 0 again", x.object(0, 9, 4), 0);
        Checks.due("numbers begin at 0 again", x.object(0, 0, 1), 8);
    }

    private static void wipeLeavesTheRest() {
        Checks.about("6: The DRAFT is empty, and nothing else");
        BlockSearch x = new BlockSearch();
        Checks.put(x, 0, "(0 n0:1 )");
        x.flush();
        Checks.put(x, 1, "(0 t1:1 )");
        x.refresh();
        Checks.ask(x, Checks.ANY, 0, 0);
        x.search();
        String before = Checks.picture(x);
        Checks.lay(x, "(0 n2:1 t3:1 )");
        Checks.due("wipe()", x.wipe(), 1);
        Checks.same("all as it was", Checks.picture(x), before);
        Checks.due("the query too", x.search(), 1);
    }
}
