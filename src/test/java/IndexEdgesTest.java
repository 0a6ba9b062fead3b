/** The edges that promises 7 to 11 name: at each one and on both sides of it. */
public final class IndexEdgesTest {
    private static final int REFUSED = BlockSearch.REFUSED;
    private static final int NONE = BlockSearch.NONE;
    private static final int FULL = BlockSearch.FULL;
    private static final int CONFLICT = BlockSearch.CONFLICT;

    private static final String ONE = tree(1);
    private static final String TWO = tree(2);
    private static final String TEN = tree(10);

    /** By path: a whole document of which an object of that path has what stands for X. */
    private static final String[] WITH = {"(0 X )", "(0 (1 X ) )", "(0 (1 (2 X ) ) )", "(0 (3 X ) )"};
    /** The same with two objects of the path (there is one root alone, so none for path 0). */
    private static final String[] WITH_TWO = {null, "(0 (1 X ) (1 Y ) )", "(0 (1 (2 X ) ) (1 (2 Y ) ) )",
        "(0 (3 X ) (3 Y ) )"};

    public static void main(String[] args) {
        addTakesIdsZeroToNineteen();
        addNeedsACompleteDraft();
        addLeavesTheDraftEmpty();
        addDeletesWhatWasLive();
        addDeletesNothingElse();
        addSetsTypesOnce();
        addSetsSixteenTypes();
        addConflictsWithTheMapping();
        addConflictsWithinTheDraft();
        addConflictsPastObjectsWithNothing();
        addTakesNothingForAnyType();
        addThirtyObjectsAtMost();
        addCountsDeletedOnes();
        addFullKeepsTheOldOne();
        addTestsInOrder();
        removeTakesAnyInt();
        removeOnlyWhatIsLive();
        flushOfNoDocument();
        flushOfDeletedOnes();
        flushOfAFullBuffer();
        flushSixSegmentsAtMost();
        flushOfNothingIntoSix();
        mergeOfEveryRange();
        mergeFarAway();
        mergeOfOneLive();
        mergeOfNoneLive();
        mergeMovesTheLaterOnes();
        mergeMakesTheLargestSegment();
        refreshOfNoSegments();
        refreshOfDeletedOnes();
        refreshOfTheMostDocuments();
        refreshLeavesTheBufferOut();
        refreshLeavesTheHits();
        Checks.end();
    }

    private static void addTakesIdsZeroToNineteen() {
        Checks.about("7: this ID (0 to 19)");
        BlockSearch x = new BlockSearch();
        Checks.lay(x, ONE);
        Checks.due("add(-1)", x.add(-1), REFUSED);
        Checks.due("add(20)", x.add(20), REFUSED);
        for (int far : Checks.FAR) {
            Checks.due("add(" + far + ")", x.add(far), REFUSED);
        }
        Checks.due("the draft stays", x.add(0), 1);
        Checks.due("add(1)", Checks.put(x, 1, ONE), 2);
        Checks.due("add(18)", Checks.put(x, 18, ONE), 3);
        Checks.due("add(19)", Checks.put(x, 19, ONE), 4);
        x.flush();
        Checks.same("ids", Checks.documents(x, 0), "0 1 18 19");
    }

    private static void addNeedsACompleteDraft() {
        Checks.about("7: NONE if the DRAFT is not COMPLETE");
        BlockSearch x = new BlockSearch();
        Checks.due("empty", x.add(0), NONE);
        Checks.lay(x, "(0");
        Checks.due("the root is open", x.add(0), NONE);
        Checks.lay(x, "(1");
        Checks.due("a child is open", x.add(0), NONE);
        Checks.lay(x, ")");
        Checks.due("all but the root are closed", x.add(0), NONE);
        Checks.lay(x, ")");
        Checks.due("complete", x.add(0), 2);
        Checks.due("empty again", x.add(0), NONE);
        Checks.lay(x, ONE);
        x.wipe();
        Checks.due("wiped", x.add(0), NONE);
        Checks.due("one was added", x.count(5), 1);
    }

    private static void addLeavesTheDraftEmpty() {
        Checks.about("7: The DRAFT, which is empty then");
        BlockSearch x = new BlockSearch();
        Checks.put(x, 0, TEN);
        Checks.due("count(1)", x.count(1), 0);
        Checks.due("wipe()", x.wipe(), 0);
        Checks.due("ten more have room", Checks.put(x, 1, TEN), 20);
        x.flush();
        Checks.due("the first one's root", x.object(0, 9, 4), 0);
        Checks.due("the second one's root", x.object(0, 19, 4), 10);
        Checks.due("the second one's first child", x.object(0, 10, 1), 19);
    }

    private static void addDeletesWhatWasLive() {
        Checks.about("7: the one that was LIVE with it, if there was one, is DELETED");
        for (int id : new int[] {0, 19}) {
            BlockSearch x = new BlockSearch();
            Checks.put(x, id, "(0 n0:1 )");
            Checks.due("there was none", x.count(3), 1);
            Checks.put(x, id, "(0 n0:2 )");
            Checks.due("one in the buffer", x.count(3), 1);
            Checks.due("flush()", x.flush(), 1);
            Checks.due("the latest stays", x.object(0, 0, 10), 2);
            Checks.put(x, id, "(0 n0:3 )");
            Checks.same("one in a segment", Checks.documents(x, 0), "-" + id);
            Checks.due("live", x.count(3), 1);
            x.flush();
            Checks.put(x, id, "(0 n0:4 )");
            Checks.same("one in a later segment", Checks.documents(x, 1), "-" + id);
            Checks.due("live", x.count(3), 1);
            Checks.due("deleted in segments", x.count(4), 2);
            x.remove(id);
            Checks.put(x, id, "(0 n0:5 )");
            Checks.due("a deleted one alone", x.count(3), 1);
            Checks.due("added", x.count(5), 5);
        }
    }

    private static void addDeletesNothingElse() {
        Checks.about("7: the one that was LIVE with it");
        BlockSearch x = new BlockSearch();
        for (int id = 0; id < 10; id++) {
            Checks.put(x, id, ONE);
        }
        x.flush();
        for (int id = 10; id < 20; id++) {
            Checks.put(x, id, ONE);
        }
        Checks.due("live", x.count(3), 20);
        Checks.put(x, 9, ONE);
        Checks.put(x, 10, ONE);
        Checks.due("still live", x.count(3), 20);
        Checks.same("in the segment", Checks.documents(x, 0), "0 1 2 3 4 5 6 7 8 -9");
        x.flush();
        Checks.same("from the buffer", Checks.documents(x, 1), "11 12 13 14 15 16 17 18 19 9 10");
    }

    private static void addSetsTypesOnce() {
        Checks.about("7: Where a PATH and FIELD had no TYPE, and the FIELD does not have nothing, it has that TYPE");
        for (int path = 1; path < 4; path++) {
            BlockSearch x = new BlockSearch();
            String one = WITH[path];
            String two = WITH_TWO[path];
            Checks.put(x, 0, one.replace("X ", ""));
            Checks.due("nothing sets no type", x.count(6), 0);
            Checks.put(x, 1, two.replace("X", "n1:0").replace("Y", "n1:5"));
            Checks.due("two objects set one type", x.count(6), 1);
            Checks.due("number", x.type(path, 1), 1);
            Checks.put(x, 2, one.replace("X", "n1:-3"));
            Checks.due("a type is set once", x.count(6), 1);
            Checks.put(x, 3, two.replace("X ", "").replace("Y", "t2:0"));
            Checks.due("one of two objects has it", x.count(6), 2);
            Checks.due("text", x.type(path, 2), 2);
            Checks.due("the field beside it", x.type(path, 3), 0);
            Checks.due("the root's field", x.type(0, 1), 0);
            for (int id = 0; id < 4; id++) {
                x.remove(id);
            }
            Checks.due("types outlive their documents", x.type(path, 1), 1);
        }
    }

    private static void addSetsSixteenTypes() {
        Checks.about("7: Where a PATH and FIELD had no TYPE in the MAPPING, it has that TYPE from now on");
        BlockSearch x = new BlockSearch();
        Checks.put(x, 0, "(0 n0:1 t1:1 n2:1 t3:1 (1 t0:1 n1:1 n2:1 t3:1 (2 n0:1 n1:1 t2:1 t3:1 ) ) "
                + "(3 t0:1 t1:1 n2:1 n3:1 ) )");
        int[][] want = {{1, 2, 1, 2}, {2, 1, 1, 2}, {1, 1, 2, 2}, {2, 2, 1, 1}};
        for (int path = 0; path < 4; path++) {
            for (int f = 0; f < 4; f++) {
                Checks.due("type(" + path + ", " + f + ")", x.type(path, f), want[path][f]);
            }
        }
        Checks.due("all sixteen", x.count(6), 16);
        Checks.put(x, 1, "(0 n0:2 t1:2 (3 t0:2 n3:2 ) )");
        Checks.due("still sixteen", x.count(6), 16);
    }

    private static void addConflictsWithTheMapping() {
        Checks.about("7: CONFLICT if some FIELD in it has a VALUE that is not of the TYPE in the MAPPING");
        for (int path = 0; path < 4; path++) {
            for (int f = 0; f < 4; f++) {
                String number = WITH[path].replace("X", "n" + f + ":0");
                String text = WITH[path].replace("X", "t" + f + ":0");
                mappingConflict(number, text);
                mappingConflict(text, number);
            }
        }
    }

    private static void mappingConflict(String first, String other) {
        BlockSearch x = new BlockSearch();
        int size = Checks.put(x, 0, first);
        Checks.due(other + " behind " + first, Checks.put(x, 1, other), CONFLICT);
        Checks.due("the draft stays", x.wipe(), size);
        Checks.due(first + " again", Checks.put(x, 1, first), 2 * size);
        x.remove(0);
        x.remove(1);
        x.flush();
        Checks.due("the type outlives its documents", Checks.put(x, 2, other), CONFLICT);
        Checks.due("one type", x.count(6), 1);
    }

    private static void addConflictsWithinTheDraft() {
        Checks.about("7: or if the FIELD of one PATH has a NUMBER in one OBJECT of it and a TEXT in another one");
        for (int path = 1; path < 4; path++) {
            for (int f = 0; f < 4; f++) {
                String number = "n" + f + ":0";
                String text = "t" + f + ":0";
                String beside = "t" + (f + 1) % 4 + ":0";
                BlockSearch x = new BlockSearch();
                String two = WITH_TWO[path];
                Checks.due("number, text", Checks.put(x, 0, two.replace("X", number).replace("Y", text)), CONFLICT);
                x.wipe();
                Checks.due("text, number", Checks.put(x, 0, two.replace("X", text).replace("Y", number)), CONFLICT);
                x.wipe();
                Checks.due("no type is left", x.count(6), 0);
                Checks.due("different fields", Checks.put(x, 0, two.replace("X", number).replace("Y", beside)) > 0, true);
                Checks.due("two types", x.count(6), 2);
            }
        }
        BlockSearch x = new BlockSearch();
        Checks.due("different paths", Checks.put(x, 0, "(0 n0:1 (1 t0:1 (2 n0:1 ) ) (3 t0:1 ) )"), 4);
        Checks.due("four types", x.count(6), 4);
    }

    /** Objects with nothing stand before, between and behind those that are in conflict. */
    private static void addConflictsPastObjectsWithNothing() {
        Checks.about("7: CONFLICT if some FIELD in it has a VALUE that is not of the TYPE, or a NUMBER in one OBJECT "
                + "and a TEXT in another one");
        String[] rows = {"", "(0 O O X O Y O )", "(0 (1 O X ) (1 O O ) (1 Y O ) )", "(0 O O X O Y O )"};
        for (int path = 1; path < 4; path++) {
            String row = rows[path].replace("O", "(" + path + " )");
            String number = "(" + path + " n0:1 )";
            String text = "(" + path + " t0:1 )";
            BlockSearch x = new BlockSearch();
            Checks.due("number, text", Checks.put(x, 0, row.replace("X", number).replace("Y", text)), CONFLICT);
            x.wipe();
            Checks.due("text, number", Checks.put(x, 0, row.replace("X", text).replace("Y", number)), CONFLICT);
            x.wipe();
            int size = Checks.put(x, 0, row.replace("X", text).replace("Y", text));
            Checks.due("text, text", size > 0, true);
            Checks.due("text", x.type(path, 0), 2);
            Checks.due("number, nothing", Checks.put(x, 1, row.replace("X", number).replace("Y ", "")), CONFLICT);
            x.wipe();
            Checks.due("nothing, number", Checks.put(x, 1, row.replace("X ", "").replace("Y", number)), CONFLICT);
            x.wipe();
            Checks.due("nothing, text", Checks.put(x, 1, row.replace("X ", "").replace("Y", text)), 2 * size - 1);
        }
    }

    private static void addTakesNothingForAnyType() {
        Checks.about("7: a VALUE that is not of the TYPE: a FIELD with nothing has none");
        BlockSearch x = new BlockSearch();
        Checks.put(x, 0, "(0 n0:1 t1:1 (1 n0:1 t1:1 ) )");
        Checks.due("nothing", Checks.put(x, 1, TWO), 4);
        Checks.due("nothing in one of two", Checks.put(x, 2, "(0 (1 ) (1 n0:1 ) (1 t1:1 ) )"), 8);
    }

    private static void addThirtyObjectsAtMost() {
        Checks.about("7: FULL if the BUFFER would have more than 30 OBJECTS");
        for (int had = 20; had <= 30; had++) {
            for (int more = 1; more <= 10; more++) {
                BlockSearch x = new BlockSearch();
                Checks.put(x, 0, TEN);
                Checks.put(x, 1, TEN);
                if (had > 20) {
                    Checks.put(x, 2, tree(had - 20));
                }
                boolean room = had + more <= 30;
                Checks.due(more + " more than " + had, Checks.put(x, 3, tree(more)), room ? had + more : FULL);
                Checks.due("in the buffer", x.count(2), room ? had + more : had);
                Checks.due("in the draft", x.count(1), room ? 0 : more);
                Checks.due("flush()", x.flush(), room ? had + more : had);
                Checks.due("room again", room ? Checks.put(x, 3, tree(more)) : x.add(3), more);
            }
        }
    }

    /** A root with children of path 1, so many objects in all. */
    private static String tree(int objects) {
        return "(0 " + "(1 ) ".repeat(objects - 1) + ")";
    }

    private static void addCountsDeletedOnes() {
        Checks.about("THE BUFFER has at most 30 OBJECTS (those of DELETED ones count)");
        BlockSearch x = new BlockSearch();
        for (int i = 1; i <= 30; i++) {
            Checks.due("the same id", Checks.put(x, 5, ONE), i);
        }
        Checks.due("one live", x.count(3), 1);
        Checks.due("a thirty-first", Checks.put(x, 5, ONE), FULL);
        x.remove(5);
        Checks.due("none live", x.count(3), 0);
        Checks.due("still no room", x.add(5), FULL);
        Checks.due("flush()", x.flush(), 0);
        Checks.due("room", x.add(5), 1);
    }

    private static void addFullKeepsTheOldOne() {
        Checks.about("A call that answers a number below 0 changes nothing: add, FULL");
        BlockSearch x = new BlockSearch();
        for (int id = 0; id < 3; id++) {
            Checks.put(x, id, TEN);
        }
        Checks.due("the same id", Checks.put(x, 1, "(0 n3:1 )"), FULL);
        Checks.due("live", x.count(3), 3);
        Checks.due("no type", x.type(0, 3), 0);
        Checks.due("added", x.count(5), 3);
        Checks.due("flush()", x.flush(), 30);
        Checks.same("in order", Checks.documents(x, 0), "0 1 2");
    }

    private static void addTestsInOrder() {
        Checks.about("REFUSED is tested first, then what the call names, in that order");
        BlockSearch x = new BlockSearch();
        Checks.due("REFUSED before NONE", x.add(20), REFUSED);
        for (int id = 0; id < 3; id++) {
            Checks.put(x, id, TEN.replace("(0 ", "(0 n0:1 "));
        }
        Checks.lay(x, "(0 t0:1");
        Checks.due("NONE before CONFLICT and FULL", x.add(3), NONE);
        Checks.lay(x, ")");
        Checks.due("CONFLICT before FULL", x.add(3), CONFLICT);
        Checks.due("REFUSED before CONFLICT", x.add(-1), REFUSED);
        x.wipe();
        Checks.lay(x, ONE);
        Checks.due("FULL", x.add(3), FULL);
        Checks.due("REFUSED before FULL", x.add(20), REFUSED);
        x.wipe();
        Checks.lay(x, "(0 (1 n0:1 ) (1 t0:1 ) )");
        Checks.due("CONFLICT within the draft before FULL", x.add(3), CONFLICT);
    }

    private static void removeTakesAnyInt() {
        Checks.about("8: this ID (any int)");
        BlockSearch x = new BlockSearch();
        Checks.put(x, 0, ONE);
        x.flush();
        Checks.put(x, 19, ONE);
        Checks.due("remove(-1)", x.remove(-1), false);
        Checks.due("remove(20)", x.remove(20), false);
        for (int far : Checks.FAR) {
            Checks.due("remove(" + far + ")", x.remove(far), false);
        }
        Checks.due("live", x.count(3), 2);
        Checks.due("remove(0)", x.remove(0), true);
        Checks.due("remove(19)", x.remove(19), true);
        Checks.due("none live", x.count(3), 0);
    }

    private static void removeOnlyWhatIsLive() {
        Checks.about("8: The DOCUMENT that is LIVE with this ID is DELETED: true; false if there is none");
        BlockSearch x = new BlockSearch();
        Checks.due("none was added", x.remove(1), false);
        Checks.lay(x, ONE);
        Checks.due("the draft is none", x.remove(1), false);
        x.add(1);
        Checks.due("in the buffer", x.remove(1), true);
        Checks.due("in the buffer, again", x.remove(1), false);
        Checks.due("its object counts", x.count(2), 1);
        Checks.put(x, 1, ONE);
        x.flush();
        x.refresh();
        Checks.due("in a segment", x.remove(1), true);
        Checks.due("in a segment, again", x.remove(1), false);
        Checks.due("live in the snapshot alone", x.remove(1), false);
        Checks.due("its object counts", x.count(20), 1);
        Checks.put(x, 1, ONE);
        x.flush();
        Checks.due("in a later segment", x.remove(1), true);
        Checks.same("deleted", Checks.documents(x, 1), "-1");
        x.merge(0, 2);
        Checks.due("gone", x.remove(1), false);
        Checks.due("no segments", x.count(0), 0);
    }

    private static void flushOfNoDocument() {
        Checks.about("9: if no DOCUMENT of the BUFFER was LIVE, no SEGMENT is made, and the answer is 0");
        BlockSearch x = new BlockSearch();
        Checks.due("empty", x.flush(), 0);
        Checks.due("no segment", x.count(0), 0);
        Checks.lay(x, ONE);
        Checks.due("the draft is not in it", x.flush(), 0);
        x.add(0);
        Checks.due("one", x.flush(), 1);
        Checks.due("one segment", x.count(0), 1);
        Checks.due("empty again", x.flush(), 0);
        Checks.due("still one", x.count(0), 1);
    }

    private static void flushOfDeletedOnes() {
        Checks.about("9: and the BUFFER is empty (DELETED ones are nowhere any more)");
        BlockSearch x = new BlockSearch();
        Checks.put(x, 0, TWO);
        Checks.put(x, 1, TWO);
        x.remove(0);
        x.remove(1);
        Checks.due("none live", x.flush(), 0);
        Checks.due("no segment", x.count(0), 0);
        Checks.due("the buffer is empty", x.count(2), 0);
        Checks.put(x, 0, TWO);
        Checks.put(x, 1, ONE);
        Checks.put(x, 2, TWO);
        x.remove(0);
        x.remove(2);
        Checks.due("one live", x.flush(), 1);
        Checks.same("that one", Checks.documents(x, 0), "1");
        Checks.due("the buffer is empty", x.count(2), 0);
        Checks.due("no deleted ones in segments", x.count(4), 0);
        Checks.due("none that merge left out", x.count(9), 0);
        x.refresh();
        Checks.due("none in the snapshot", x.count(7), 1);
    }

    private static void flushOfAFullBuffer() {
        Checks.about("9: Answers how many OBJECTS the SEGMENT has");
        BlockSearch x = new BlockSearch();
        for (int id = 0; id < 3; id++) {
            Checks.put(x, id, TEN);
        }
        Checks.due("thirty", x.flush(), 30);
        Checks.due("count(20)", x.count(20), 30);
        Checks.due("the last one", x.object(0, 29, 2), 2);
        Checks.due("none behind it", x.object(0, 30, 2), NONE);
        for (int id = 0; id < 20; id++) {
            Checks.due("twenty documents", Checks.put(x, id, ONE), id + 1);
        }
        Checks.due("twenty", x.flush(), 20);
        Checks.due("live in it", x.count(31), 20);
        Checks.due("live in the one before", x.count(30), 0);
    }

    private static BlockSearch segments(int many) {
        BlockSearch x = new BlockSearch();
        for (int id = 0; id < many; id++) {
            Checks.put(x, id, ONE);
            x.flush();
        }
        return x;
    }

    private static void flushSixSegmentsAtMost() {
        Checks.about("9: FULL if there are 6 SEGMENTS and a LIVE DOCUMENT in the BUFFER");
        BlockSearch x = segments(5);
        Checks.put(x, 5, TWO);
        Checks.due("a sixth", x.flush(), 2);
        Checks.put(x, 6, TWO);
        Checks.put(x, 7, ONE);
        x.remove(7);
        Checks.due("a seventh", x.flush(), FULL);
        Checks.due("a seventh, again", x.flush(), FULL);
        Checks.due("segments", x.count(0), 6);
        Checks.due("the buffer stays", x.count(2), 3);
        Checks.due("live", x.count(3), 7);
        Checks.due("merge(0, 2)", x.merge(0, 2), 5);
        Checks.due("room again", x.flush(), 2);
        Checks.same("behind all others", Checks.documents(x, 5), "6");
    }

    private static void flushOfNothingIntoSix() {
        Checks.about("9: FULL if there are 6 SEGMENTS and a LIVE DOCUMENT in the BUFFER");
        BlockSearch x = segments(6);
        Checks.due("of an empty buffer", x.flush(), 0);
        Checks.put(x, 6, TWO);
        Checks.put(x, 6, TWO);
        x.remove(6);
        Checks.due("of deleted ones", x.flush(), 0);
        Checks.due("the buffer is empty", x.count(2), 0);
        Checks.due("segments", x.count(0), 6);
        for (int id = 0; id < 6; id++) {
            Checks.same("as they were", Checks.documents(x, id), "" + id);
        }
    }

    private static void mergeOfEveryRange() {
        Checks.about("10: REFUSED if there are not all of these, or many is not as said (2 to 6)");
        for (int have = 0; have <= 6; have++) {
            for (int first = -2; first <= 7; first++) {
                for (int many = -2; many <= 8; many++) {
                    BlockSearch x = segments(have);
                    boolean good = many >= 2 && many <= 6 && first >= 0 && first + many <= have;
                    Checks.due("merge(" + first + ", " + many + ") of " + have, x.merge(first, many),
                            good ? have - many + 1 : REFUSED);
                    Checks.due("segments", x.count(0), good ? have - many + 1 : have);
                    Checks.due("live", x.count(3), have);
                }
            }
        }
    }

    private static void mergeFarAway() {
        Checks.about("10: REFUSED if there are not all of these, or many is not as said: any int");
        BlockSearch x = segments(6);
        int[] far = {Integer.MIN_VALUE, Integer.MIN_VALUE + 1, Integer.MIN_VALUE + 6, -6, -1, 0, 2, 6,
            Integer.MAX_VALUE - 6, Integer.MAX_VALUE - 1, Integer.MAX_VALUE};
        for (int first : far) {
            for (int many : far) {
                boolean good = first == 0 && (many == 2 || many == 6) || first == 2 && many == 2;
                if (!good) {
                    Checks.due("merge(" + first + ", " + many + ")", x.merge(first, many), REFUSED);
                }
            }
        }
        Checks.due("segments", x.count(0), 6);
        Checks.due("all of them", x.merge(0, 6), 1);
        Checks.same("in order", Checks.documents(x, 0), "0 1 2 3 4 5");
    }

    private static void mergeOfOneLive() {
        Checks.about("10: become one with that number, that has their LIVE DOCUMENTS in order");
        for (int kept = 1; kept <= 3; kept++) {
            BlockSearch x = segments(5);
            for (int id = 1; id <= 3; id++) {
                if (id != kept) {
                    x.remove(id);
                }
            }
            Checks.due("merge(1, 3)", x.merge(1, 3), 3);
            Checks.same("before it", Checks.documents(x, 0), "0");
            Checks.same("the one that was live", Checks.documents(x, 1), "" + kept);
            Checks.same("moved down", Checks.documents(x, 2), "4");
            Checks.due("none behind", x.count(23), NONE);
            Checks.due("left out", x.count(9), 2);
        }
    }

    private static void mergeOfNoneLive() {
        Checks.about("10: If there are no LIVE ones there is no such SEGMENT then");
        for (int first = 0; first <= 4; first++) {
            for (int many = 2; first + many <= 6; many++) {
                BlockSearch x = segments(6);
                for (int id = first; id < first + many; id++) {
                    x.remove(id);
                }
                Checks.due("merge(" + first + ", " + many + ")", x.merge(first, many), 6 - many);
                Checks.due("segments", x.count(0), 6 - many);
                for (int k = 0; k < 6 - many; k++) {
                    Checks.same("number " + k, Checks.documents(x, k), "" + (k < first ? k : k + many));
                }
                Checks.due("none behind", x.count(26 - many), NONE);
                Checks.due("left out", x.count(9), many);
                Checks.put(x, 10, ONE);
                x.flush();
                Checks.same("a new one behind all", Checks.documents(x, 6 - many), "10");
            }
        }
    }

    private static void mergeMovesTheLaterOnes() {
        Checks.about("10: later ones move down");
        for (int many = 2; many <= 5; many++) {
            BlockSearch x = segments(6);
            Checks.due("merge(0, " + many + ")", x.merge(0, many), 7 - many);
            for (int k = 1; k < 7 - many; k++) {
                Checks.same("moved down to " + k, Checks.documents(x, k), "" + (k + many - 1));
            }
            Checks.due("none behind", x.count(27 - many), NONE);
            Checks.due("remove one of them", x.remove(5), true);
            Checks.same("it is deleted where it is now", Checks.documents(x, 6 - many), "-5");
        }
    }

    /** Twenty live documents of ten objects are the most that a segment can come to have. */
    private static void mergeMakesTheLargestSegment() {
        Checks.about("10: become one with that number, that has their LIVE DOCUMENTS");
        BlockSearch x = new BlockSearch();
        for (int id = 0; id < 20; id++) {
            for (int i = 0; i < 10; i++) {
                x.open(i == 0 ? 0 : 3);
                if (i > 0) {
                    x.close();
                }
            }
            x.close();
            x.add(id);
            if (id % 3 == 2 || id == 19) {
                x.flush();
            }
            if (id == 8) {
                x.merge(0, 3);
            }
        }
        Checks.due("segments", x.count(0), 5);
        Checks.due("merge(0, 5)", x.merge(0, 5), 1);
        Checks.due("objects", x.count(20), 200);
        Checks.due("live", x.count(30), 20);
        Checks.due("the last object's id", x.object(0, 199, 2), 19);
        Checks.due("its least", x.object(0, 199, 4), 190);
        Checks.due("the parent of the one before", x.object(0, 198, 1), 199);
        Checks.due("none behind it", x.object(0, 200, 0), NONE);
        Checks.due("refresh()", x.refresh(), 20);
        Checks.ask(x, Checks.NEST, 3, 1, Checks.ANY, 0, 0);
        Checks.due("search()", x.search(), 20);
        Checks.due("the last hit's root", x.hit(19, 3), 199);
        Checks.due("its score", x.hit(19, 1), 9);
    }

    private static void refreshOfNoSegments() {
        Checks.about("11: There is a new SNAPSHOT: how many LIVE DOCUMENTS it has");
        BlockSearch x = new BlockSearch();
        Checks.ask(x, Checks.ANY, 0, 0);
        Checks.due("before it", x.search(), NONE);
        Checks.due("refresh()", x.refresh(), 0);
        Checks.due("there is one now", x.search(), 0);
        Checks.put(x, 0, ONE);
        x.flush();
        Checks.due("what comes later is not in it", x.search(), 0);
        Checks.due("refresh()", x.refresh(), 1);
        Checks.due("refresh again", x.refresh(), 1);
        Checks.due("search()", x.search(), 1);
        x.remove(0);
        Checks.put(x, 1, ONE);
        x.flush();
        x.merge(0, 2);
        x.remove(1);
        Checks.put(x, 2, ONE);
        x.flush();
        x.remove(2);
        x.merge(0, 2);
        Checks.due("no segments again", x.count(0), 0);
        Checks.due("the snapshot stays", x.count(7), 1);
        Checks.due("refresh()", x.refresh(), 0);
        Checks.due("none in it", x.count(7), 0);
        Checks.due("search()", x.search(), 0);
        for (int id = 0; id < 3; id++) {
            Checks.due("score(" + id + ")", x.score(id), NONE);
        }
    }

    private static void refreshOfDeletedOnes() {
        Checks.about("11: how many LIVE DOCUMENTS it has");
        BlockSearch x = segments(3);
        for (int id = 0; id < 3; id++) {
            Checks.due("refresh()", x.refresh(), 3 - id);
            Checks.due("live or not", x.count(7), 3);
            x.remove(id);
            Checks.due("a remove does not change it", x.count(7), 3);
        }
        Checks.due("none live", x.refresh(), 0);
        Checks.due("live or not", x.count(7), 3);
    }

    /** Six segments, each made of twenty ids: the most documents that a snapshot can have. */
    private static void refreshOfTheMostDocuments() {
        Checks.about("11: There is a new SNAPSHOT");
        BlockSearch x = new BlockSearch();
        for (int i = 0; i < 120; i++) {
            x.open(0);
            x.close();
            x.add(i % 20);
            if (i % 20 == 19) {
                x.flush();
            }
        }
        Checks.due("refresh()", x.refresh(), 20);
        Checks.due("count(7)", x.count(7), 120);
        Checks.ask(x, Checks.ANY, 0, 0);
        Checks.due("search()", x.search(), 20);
        Checks.due("the last hit's id", x.hit(19, 0), 19);
        Checks.due("its segment", x.hit(19, 2), 5);
        Checks.due("its root", x.hit(19, 3), 19);
        Checks.due("none behind it", x.hit(20, 0), NONE);
        Checks.due("deleted in segments", x.count(4), 100);
        Checks.due("merge(0, 6)", x.merge(0, 6), 1);
        Checks.due("left out", x.count(9), 100);
        Checks.due("the snapshot stays", x.count(7), 120);
        Checks.due("score(19)", x.score(19), 1);
    }

    private static void refreshLeavesTheBufferOut() {
        Checks.about("THE SNAPSHOT is what the SEGMENTS were when refresh was called last");
        BlockSearch x = new BlockSearch();
        Checks.put(x, 0, ONE);
        Checks.due("the buffer is not in it", x.refresh(), 0);
        Checks.due("count(7)", x.count(7), 0);
        x.flush();
        Checks.due("a segment is", x.refresh(), 1);
        Checks.put(x, 0, "(0 n0:1 )");
        Checks.due("one that was replaced is deleted in it", x.refresh(), 0);
        Checks.due("count(7)", x.count(7), 1);
        x.flush();
        Checks.due("flushed, not refreshed", x.count(7), 1);
        Checks.due("refresh()", x.refresh(), 1);
        Checks.due("count(7)", x.count(7), 2);
    }

    private static void refreshLeavesTheHits() {
        Checks.about("11: (The HITS stay as they are.)");
        BlockSearch x = segments(3);
        x.refresh();
        Checks.ask(x, Checks.ANY, 0, 0);
        x.search();
        for (int id = 0; id < 3; id++) {
            x.remove(id);
        }
        Checks.due("merge(0, 3)", x.merge(0, 3), 0);
        Checks.due("refresh()", x.refresh(), 0);
        Checks.due("count(8)", x.count(8), 3);
        for (int k = 0; k < 3; k++) {
            Checks.due("id", x.hit(k, 0), k);
            Checks.due("score", x.hit(k, 1), 1);
            Checks.due("segment", x.hit(k, 2), k);
            Checks.due("root", x.hit(k, 3), 0);
            Checks.due("objects", x.hit(k, 4), 1);
        }
        Checks.due("search()", x.search(), 0);
        Checks.due("count(8), searched", x.count(8), 0);
    }
}
