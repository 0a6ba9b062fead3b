/**
 * "A call that answers a number below 0, or false, changes nothing": every call, with every such
 * answer that it can give; and the calls that only read change nothing either.
 */
public final class NoTraceTest {
    private static final int REFUSED = BlockSearch.REFUSED;
    private static final int NONE = BlockSearch.NONE;
    private static final int FULL = BlockSearch.FULL;
    private static final int CONFLICT = BlockSearch.CONFLICT;

    private static final String NINE_AND_ROOT = "(0 (3 ) (3 ) (3 ) (3 ) (3 ) (3 ) (3 ) (3 ) (3 )";

    public static void main(String[] args) {
        Checks.about("A call that answers a number below 0, or false, changes nothing");
        open();
        number();
        word();
        wordsThatWereNotTaken();
        close();
        add();
        addKeepsWhatWasLive();
        addLeavesNoTypeOfAConflict();
        addLeavesNoTypeWhenFull();
        remove();
        flush();
        merge();
        token();
        search();
        readers();
        Checks.end();
    }

    /** Something of everything: a document in each place, hits, a snapshot older than the segments, a query. */
    private static void everything(BlockSearch x) {
        Checks.put(x, 0, "(0 n0:1 t1:2 (1 n0:3 ) )");
        Checks.put(x, 1, "(0 n0:2 (3 t0:1 ) )");
        x.flush();
        Checks.put(x, 2, "(0 n0:5 )");
        x.flush();
        x.refresh();
        Checks.ask(x, Checks.FROM, 0, 2);
        x.search();
        Checks.put(x, 1, "(0 n0:9 )");
        Checks.put(x, 3, "(0 t1:2,2 )");
        Checks.ask(x, Checks.EITHER, 0, 0, Checks.HAS, 1, 2, Checks.NEST, 3, 1, Checks.HAS, 0, 1);
    }

    private static void openDraft(BlockSearch x) {
        everything(x);
        Checks.lay(x, "(0 n0:4 t1:1 (1 n0:6 t1:7,7");
    }

    private static void completeDraft(BlockSearch x) {
        openDraft(x);
        Checks.lay(x, ") )");
    }

    private static void open() {
        Checks.noTrace("open, REFUSED", NoTraceTest::openDraft, x -> {
            Checks.due("open(-1)", x.open(-1), REFUSED);
            Checks.due("open(4)", x.open(4), REFUSED);
        });
        Checks.noTrace("open, NONE, an empty draft", NoTraceTest::everything, x -> {
            Checks.due("open(1)", x.open(1), NONE);
            Checks.due("open(3)", x.open(3), NONE);
        });
        Checks.noTrace("open, NONE, the wrong path", NoTraceTest::openDraft, x -> {
            Checks.due("open(0)", x.open(0), NONE);
            Checks.due("open(3)", x.open(3), NONE);
        });
        Checks.noTrace("open, NONE, a complete draft", NoTraceTest::completeDraft, x -> {
            Checks.due("open(0)", x.open(0), NONE);
            Checks.due("open(1)", x.open(1), NONE);
        });
        Checks.noTrace("open, FULL", x -> Checks.lay(x, NINE_AND_ROOT), x -> {
            Checks.due("open(1)", x.open(1), FULL);
            Checks.due("open(3)", x.open(3), FULL);
        });
    }

    private static void number() {
        Checks.noTrace("number, a number not as said", NoTraceTest::openDraft, x -> {
            Checks.due("number(-1, 1)", x.number(-1, 1), false);
            Checks.due("number(4, 1)", x.number(4, 1), false);
            Checks.due("number(0, 1001)", x.number(0, 1001), false);
            Checks.due("number(1, -1001)", x.number(1, -1001), false);
            Checks.due("number(2, 1001)", x.number(2, 1001), false);
        });
        Checks.noTrace("number, an empty draft", NoTraceTest::everything,
            x -> Checks.due("number(0, 1)", x.number(0, 1), false));
        Checks.noTrace("number, a complete draft", NoTraceTest::completeDraft, x -> {
            Checks.due("number(0, 1)", x.number(0, 1), false);
            Checks.due("number(1, 1)", x.number(1, 1), false);
            Checks.due("number(2, 1)", x.number(2, 1), false);
        });
    }

    private static void word() {
        Checks.noTrace("word, REFUSED", NoTraceTest::openDraft, x -> {
            Checks.due("word(-1, 1)", x.word(-1, 1), REFUSED);
            Checks.due("word(4, 1)", x.word(4, 1), REFUSED);
            Checks.due("word(1, -1)", x.word(1, -1), REFUSED);
            Checks.due("word(1, 26)", x.word(1, 26), REFUSED);
            Checks.due("word(2, 26)", x.word(2, 26), REFUSED);
        });
        Checks.noTrace("word, NONE, an empty draft", NoTraceTest::everything,
            x -> Checks.due("word(1, 1)", x.word(1, 1), NONE));
        Checks.noTrace("word, NONE, a complete draft", NoTraceTest::completeDraft, x -> {
            Checks.due("word(1, 1)", x.word(1, 1), NONE);
            Checks.due("word(2, 1)", x.word(2, 1), NONE);
        });
        Checks.noTrace("word, CONFLICT", NoTraceTest::openDraft,
            x -> Checks.due("word(0, 1)", x.word(0, 1), CONFLICT));
        Checks.noTrace("word, FULL", x -> Checks.lay(x, "(0 t1:1,2,3,4,5,6,7,8"),
            x -> Checks.due("word(1, 9)", x.word(1, 9), FULL));
    }

    /** A segment's facts tell how many words there are, not which ones, so they are searched for. */
    private static void wordsThatWereNotTaken() {
        BlockSearch x = new BlockSearch();
        Checks.lay(x, "(0 t1:1,2,3,4,5,6,7,8 n0:1");
        Checks.due("FULL", x.word(1, 9), FULL);
        Checks.due("REFUSED", x.word(1, 26), REFUSED);
        Checks.due("CONFLICT", x.word(0, 9), CONFLICT);
        Checks.lay(x, ")");
        Checks.due("NONE", x.word(1, 9), NONE);
        x.add(0);
        x.flush();
        x.refresh();
        for (int w = 0; w <= 10; w++) {
            Checks.same("word " + w, Checks.answer(x, Checks.HAS, 1, w), w >= 1 && w <= 8 ? "0=2" : "");
        }
        Checks.same("the number", Checks.answer(x, Checks.FROM, 0, 1), "0=1");
        Checks.same("no word there", Checks.answer(x, Checks.HAS, 0, 9), "");
    }

    private static void close() {
        Checks.noTrace("close, NONE, an empty draft", NoTraceTest::everything,
            x -> Checks.due("close()", x.close(), NONE));
        Checks.noTrace("close, NONE, a complete draft", NoTraceTest::completeDraft, x -> {
            Checks.due("close()", x.close(), NONE);
            Checks.due("close()", x.close(), NONE);
        });
    }

    private static void add() {
        Checks.noTrace("add, REFUSED", NoTraceTest::completeDraft, x -> {
            Checks.due("add(-1)", x.add(-1), REFUSED);
            Checks.due("add(20)", x.add(20), REFUSED);
        });
        Checks.noTrace("add, NONE, an empty draft", NoTraceTest::everything,
            x -> Checks.due("add(0)", x.add(0), NONE));
        Checks.noTrace("add, NONE, an open draft", NoTraceTest::openDraft,
            x -> Checks.due("add(0)", x.add(0), NONE));
        Checks.noTrace("add, CONFLICT with the mapping", x -> {
            everything(x);
            Checks.lay(x, "(0 n3:1 (1 t3:1 n0:1 ) (3 n0:1 ) )");
        }, x -> Checks.due("add(0)", x.add(0), CONFLICT));
        Checks.noTrace("add, CONFLICT within the draft", x -> {
            everything(x);
            Checks.lay(x, "(0 n3:1 (3 n2:1 ) (3 t2:1 ) )");
        }, x -> Checks.due("add(1)", x.add(1), CONFLICT));
        Checks.noTrace("add, FULL", x -> {
            for (int id = 0; id < 3; id++) {
                Checks.put(x, id, NINE_AND_ROOT + " )");
            }
            Checks.lay(x, "(0 n3:1 )");
        }, x -> {
            Checks.due("add(1)", x.add(1), FULL);
            Checks.due("add(7)", x.add(7), FULL);
        });
    }

    private static void addKeepsWhatWasLive() {
        BlockSearch x = new BlockSearch();
        Checks.put(x, 4, "(0 n0:1 )");
        x.flush();
        Checks.put(x, 5, "(0 n0:1 )");
        for (int id = 4; id <= 5; id++) {
            Checks.due("CONFLICT", Checks.put(x, id, "(0 t0:1 )"), CONFLICT);
            x.wipe();
            Checks.lay(x, "(0");
            Checks.due("NONE", x.add(id), NONE);
            x.wipe();
        }
        Checks.due("both are live", x.count(3), 2);
        Checks.due("none is deleted", x.count(4), 0);
        Checks.due("the buffer is flushed whole", x.flush(), 1);
        Checks.due("two were added", x.count(5), 2);
    }

    /** The draft has a new field before the one in conflict; the new field may then be of the other type. */
    private static void addLeavesNoTypeOfAConflict() {
        String[] with = {"(0 X )", "(0 (1 X ) )", "(0 (1 (2 X ) ) )", "(0 (3 X ) )"};
        for (int path = 0; path < 4; path++) {
            for (int f = 0; f < 3; f++) {
                BlockSearch x = new BlockSearch();
                int size = Checks.put(x, 0, with[path].replace("X", "n3:1"));
                Checks.due("CONFLICT", Checks.put(x, 1, with[path].replace("X", "n" + f + ":1 t3:1")), CONFLICT);
                x.wipe();
                Checks.due("no type", x.type(path, f), 0);
                Checks.due("the other type", Checks.put(x, 1, with[path].replace("X", "t" + f + ":1")), 2 * size);
                Checks.due("text", x.type(path, f), 2);
            }
        }
    }

    private static void addLeavesNoTypeWhenFull() {
        BlockSearch x = new BlockSearch();
        for (int id = 0; id < 3; id++) {
            Checks.put(x, id, NINE_AND_ROOT + " )");
        }
        Checks.due("FULL", Checks.put(x, 3, "(0 n0:1 )"), FULL);
        x.wipe();
        x.flush();
        Checks.due("no type", x.type(0, 0), 0);
        Checks.due("the other type", Checks.put(x, 3, "(0 t0:1 )"), 1);
        Checks.due("text", x.type(0, 0), 2);
    }

    private static void remove() {
        Checks.noTrace("remove, false", NoTraceTest::completeDraft, x -> {
            for (int id : new int[] {-1, 4, 19, 20, Integer.MIN_VALUE, Integer.MAX_VALUE}) {
                Checks.due("remove(" + id + ")", x.remove(id), false);
            }
        });
        Checks.noTrace("remove, false, a deleted one", x -> {
            everything(x);
            x.remove(1);
            x.remove(2);
        }, x -> {
            Checks.due("remove(1)", x.remove(1), false);
            Checks.due("remove(2)", x.remove(2), false);
        });
    }

    private static void flush() {
        Checks.noTrace("flush, FULL", x -> {
            for (int id = 0; id < 6; id++) {
                Checks.put(x, id, "(0 n0:" + id + " )");
                x.flush();
            }
            Checks.put(x, 0, "(0 )");
            Checks.put(x, 6, "(0 )");
            x.remove(6);
        }, x -> {
            Checks.due("flush()", x.flush(), FULL);
            Checks.due("flush()", x.flush(), FULL);
        });
        BlockSearch x = new BlockSearch();
        for (int id = 0; id < 6; id++) {
            Checks.put(x, id, "(0 )");
            x.flush();
        }
        Checks.put(x, 6, "(0 (1 ) )");
        Checks.put(x, 7, "(0 )");
        x.remove(7);
        Checks.due("flush()", x.flush(), FULL);
        x.merge(0, 6);
        Checks.due("flush, room again", x.flush(), 2);
        Checks.same("what was live", Checks.documents(x, 1), "6");
    }

    private static void merge() {
        Checks.noTrace("merge, REFUSED", x -> {
            everything(x);
            x.remove(0);
        }, x -> {
            int[][] bad = {{0, 1}, {0, 0}, {0, 3}, {0, 6}, {0, 7}, {1, 2}, {-1, 2}, {-1, 3}, {2, 2},
                {Integer.MAX_VALUE, 2}, {Integer.MIN_VALUE, 2}, {0, Integer.MAX_VALUE}, {0, Integer.MIN_VALUE}};
            for (int[] pair : bad) {
                Checks.due("merge(" + pair[0] + ", " + pair[1] + ")", x.merge(pair[0], pair[1]), REFUSED);
            }
        });
    }

    private static void token() {
        Checks.noTrace("token, REFUSED, an empty query", x -> {
            everything(x);
            x.clear();
        }, x -> {
            Checks.due("token(9, 0, 0)", x.token(9, 0, 0), REFUSED);
            Checks.due("token(-1, 0, 0)", x.token(-1, 0, 0), REFUSED);
            Checks.due("token(0, 0, 26)", x.token(0, 0, 26), REFUSED);
            Checks.due("token(8, 1, 5)", x.token(8, 1, 5), REFUSED);
        });
        Checks.noTrace("token, NONE, complete", NoTraceTest::everything, x -> {
            Checks.due("token(4, 0, 0)", x.token(4, 0, 0), NONE);
            Checks.due("token(5, 0, 0)", x.token(5, 0, 0), NONE);
            Checks.due("token(8, 1, 0)", x.token(8, 1, 0), NONE);
        });
        Checks.noTrace("token, NONE, NEST", x -> {
            everything(x);
            x.clear();
            x.token(Checks.BOTH, 0, 0);
            x.token(Checks.SOME, 0, 0);
        }, x -> {
            Checks.due("token(8, 0, 0)", x.token(8, 0, 0), NONE);
            Checks.due("token(8, 2, 0)", x.token(8, 2, 0), NONE);
        });
        Checks.noTrace("token, FULL", x -> {
            everything(x);
            x.clear();
            for (int i = 0; i < 12; i++) {
                x.token(Checks.EITHER, 0, 0);
            }
        }, x -> {
            Checks.due("token(4, 0, 0)", x.token(4, 0, 0), FULL);
            Checks.due("token(8, 1, 0)", x.token(8, 1, 0), FULL);
        });
    }

    private static void search() {
        Checks.noTrace("search, NONE, not complete", x -> {
            everything(x);
            x.clear();
            x.token(Checks.NOT, 0, 0);
        }, x -> Checks.due("search()", x.search(), NONE));
        Checks.noTrace("search, NONE, an empty query", x -> {
            everything(x);
            x.clear();
        }, x -> Checks.due("search()", x.search(), NONE));
        Checks.noTrace("search, NONE, no snapshot", x -> {
            Checks.put(x, 0, "(0 )");
            x.flush();
            x.token(Checks.ANY, 0, 0);
        }, x -> Checks.due("search()", x.search(), NONE));
        BlockSearch x = new BlockSearch();
        everything(x);
        String hits = Checks.found(x);
        x.clear();
        Checks.due("search()", x.search(), NONE);
        Checks.same("the hits stay", Checks.found(x), hits);
        Checks.same("as they were found", hits, "1=1 2=1");
    }

    private static void readers() {
        Checks.about("hit, score, object, type and count change nothing");
        reading("hit", (x, i) -> x.hit(i, 0) + x.hit(0, i));
        reading("score", (x, i) -> x.score(i));
        reading("object", (x, i) -> x.object(0, i, 0) + x.object(i, 0, 0) + x.object(0, 0, i));
        reading("type", (x, i) -> x.type(i, 0) + x.type(0, i));
        reading("count", (x, i) -> x.count(i));
    }

    private interface Reader {
        int read(BlockSearch x, int i);
    }

    private static void reading(String what, Reader reader) {
        Checks.noTrace(what, NoTraceTest::openDraft, x -> {
            for (int i = -2; i <= 36; i++) {
                reader.read(x, i);
            }
        });
    }
}
