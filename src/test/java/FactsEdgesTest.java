/** The edges that promises 17 to 19 name: at each one and on both sides of it. */
public final class FactsEdgesTest {
    private static final int REFUSED = BlockSearch.REFUSED;
    private static final int NONE = BlockSearch.NONE;

    public static void main(String[] args) {
        objectWhat();
        objectSegments();
        objectNumbers();
        objectParentOfARoot();
        objectLeastOfALeaf();
        objectInALaterDocument();
        objectFieldNumbers();
        objectFieldWords();
        objectFieldNothing();
        objectLiveOrNot();
        objectTestsInOrder();
        typePathsAndFields();
        typeBeforeAndAfterAdd();
        countWhat();
        countOfEachSegment();
        countOfAnAllDeletedSegment();
        countDraftAndBuffer();
        countLiveAndDeleted();
        countSoFar();
        countSnapshotAndHits();
        Checks.end();
    }

    private static boolean within(int v, int least, int most) {
        return v >= least && v <= most;
    }

    /** Segment 0 has documents 4 (one object) and 5 (six objects), segment 1 has document 6 (two objects). */
    private static BlockSearch twoSegments() {
        BlockSearch x = new BlockSearch();
        Checks.put(x, 4, "(0 n0:-2 )");
        Checks.put(x, 5, "(0 (1 (2 ) (2 ) ) (3 ) (1 ) )");
        x.flush();
        Checks.put(x, 6, "(0 (3 ) )");
        x.flush();
        return x;
    }

    private static void objectWhat() {
        Checks.about("17: what 0 to 4, 10 + f; REFUSED for another what");
        BlockSearch x = twoSegments();
        for (int what = -2; what <= 25; what++) {
            boolean good = within(what, 0, 4) || within(what, 10, 13);
            Checks.due("object(0, 0, " + what + ") refused", x.object(0, 0, what) == REFUSED, !good);
            Checks.due("object(0, 7, " + what + ")", x.object(0, 7, what), good ? NONE : REFUSED);
            Checks.due("object(2, 0, " + what + ")", x.object(2, 0, what), good ? NONE : REFUSED);
        }
        for (int far : Checks.FAR) {
            Checks.due("object(0, 0, " + far + ")", x.object(0, 0, far), REFUSED);
            Checks.due("object(2, 0, " + far + ")", x.object(2, 0, far), REFUSED);
        }
    }

    private static void objectSegments() {
        Checks.about("17: Of the OBJECT in a SEGMENT; NONE if there is no such one");
        BlockSearch x = new BlockSearch();
        for (int have = 0; have <= 6; have++) {
            for (int segment = -1; segment <= 7; segment++) {
                Checks.due("object(" + segment + ", 0, 2) of " + have, x.object(segment, 0, 2),
                        within(segment, 0, have - 1) ? 10 + segment : NONE);
            }
            for (int far : Checks.FAR) {
                Checks.due("object(" + far + ", 0, 2)", x.object(far, 0, 2), NONE);
            }
            Checks.put(x, 10 + have, "(0 )");
            x.flush();
        }
        x.merge(0, 6);
        Checks.due("object(0, 5, 2)", x.object(0, 5, 2), 15);
        Checks.due("object(1, 0, 2), merged away", x.object(1, 0, 2), NONE);
        Checks.due("object(5, 0, 2), merged away", x.object(5, 0, 2), NONE);
    }

    private static void objectNumbers() {
        Checks.about("17: the OBJECT with a number; NONE if there is no such one");
        BlockSearch x = twoSegments();
        int[] ids = {4, 5, 5, 5, 5, 5, 5};
        for (int number = -2; number <= 9; number++) {
            Checks.due("object(0, " + number + ", 2)", x.object(0, number, 2), within(number, 0, 6) ? ids[number] : NONE);
            Checks.due("object(1, " + number + ", 2)", x.object(1, number, 2), within(number, 0, 1) ? 6 : NONE);
        }
        for (int far : Checks.FAR) {
            Checks.due("object(0, " + far + ", 2)", x.object(0, far, 2), NONE);
            Checks.due("object(" + far + ", " + far + ", 2)", x.object(far, far, 2), NONE);
        }
    }

    private static void objectParentOfARoot() {
        Checks.about("17: 1: the number of the OBJECT of which it is a CHILD (NONE for a ROOT)");
        BlockSearch x = twoSegments();
        int[] want = {NONE, 3, 3, 6, 6, 6, NONE};
        for (int number = 0; number < want.length; number++) {
            Checks.due("object(0, " + number + ", 1)", x.object(0, number, 1), want[number]);
        }
        Checks.due("object(1, 0, 1)", x.object(1, 0, 1), 1);
        Checks.due("object(1, 1, 1)", x.object(1, 1, 1), NONE);
    }

    private static void objectLeastOfALeaf() {
        Checks.about("17: 4: the least number of it and all OBJECTS below it");
        BlockSearch x = twoSegments();
        int[] want = {0, 1, 2, 1, 4, 5, 1};
        for (int number = 0; number < want.length; number++) {
            Checks.due("object(0, " + number + ", 4)", x.object(0, number, 4), want[number]);
        }
        Checks.due("object(1, 0, 4)", x.object(1, 0, 4), 0);
        Checks.due("object(1, 1, 4)", x.object(1, 1, 4), 0);
    }

    private static void objectInALaterDocument() {
        Checks.about("The OBJECTS of a SEGMENT are numbered from 0 on, DOCUMENT by DOCUMENT");
        BlockSearch x = twoSegments();
        Checks.due("merge(0, 2)", x.merge(0, 2), 1);
        int[][] want = {{0, NONE, 4, 0}, {2, 3, 5, 1}, {2, 3, 5, 2}, {1, 6, 5, 1}, {3, 6, 5, 4}, {1, 6, 5, 5},
            {0, NONE, 5, 1}, {3, 8, 6, 7}, {0, NONE, 6, 7}};
        for (int number = 0; number < want.length; number++) {
            Checks.due("path of " + number, x.object(0, number, 0), want[number][0]);
            Checks.due("parent of " + number, x.object(0, number, 1), want[number][1]);
            Checks.due("id of " + number, x.object(0, number, 2), want[number][2]);
            Checks.due("least of " + number, x.object(0, number, 4), want[number][3]);
        }
        x.remove(4);
        Checks.put(x, 7, "(0 )");
        x.flush();
        x.merge(0, 2);
        Checks.due("numbers close up behind one left out", x.object(0, 0, 1), 2);
        Checks.due("numbers close up", x.object(0, 7, 4), 6);
        Checks.due("the last one", x.object(0, 8, 2), 7);
        Checks.due("none behind it", x.object(0, 9, 2), NONE);
    }

    private static void objectFieldNumbers() {
        Checks.about("17: 10 + f: FIELD f: its NUMBER");
        BlockSearch x = new BlockSearch();
        Checks.put(x, 0, "(0 n0:-1000 n1:-1 n2:0 n3:1000 (1 n0:1 n1:-2 n2:-3 n3:-4 ) )");
        x.flush();
        int[][] want = {{1, -2, -3, -4}, {-1000, -1, 0, 1000}};
        for (int number = 0; number < 2; number++) {
            for (int f = 0; f < 4; f++) {
                Checks.due("object(0, " + number + ", 10 + " + f + ")", x.object(0, number, 10 + f), want[number][f]);
            }
        }
    }

    private static void objectFieldWords() {
        Checks.about("17: or 2000 and how many WORDS it has");
        for (int many = 1; many <= 8; many++) {
            for (int f = 0; f < 4; f++) {
                BlockSearch x = new BlockSearch();
                Checks.lay(x, "(0");
                for (int i = 1; i <= many; i++) {
                    Checks.due("word", x.word(f, 25), i);
                }
                Checks.lay(x, ")");
                x.add(0);
                x.flush();
                for (int other = 0; other < 4; other++) {
                    Checks.due("field " + other, x.object(0, 0, 10 + other), other == f ? 2000 + many : NONE);
                }
            }
        }
    }

    private static void objectFieldNothing() {
        Checks.about("17: (NONE if it has nothing)");
        BlockSearch x = new BlockSearch();
        Checks.put(x, 0, "(0 n0:1 t1:1 (1 ) )");
        Checks.put(x, 1, "(0 )");
        x.flush();
        for (int f = 0; f < 4; f++) {
            Checks.due("the child", x.object(0, 0, 10 + f), NONE);
            Checks.due("another root", x.object(0, 2, 10 + f), NONE);
        }
        Checks.due("a number", x.object(0, 1, 10), 1);
        Checks.due("a text", x.object(0, 1, 11), 2001);
        Checks.due("nothing", x.object(0, 1, 12), NONE);
    }

    private static void objectLiveOrNot() {
        Checks.about("17: 3: 1 if that is LIVE, else 0, as the SEGMENTS are now");
        BlockSearch x = twoSegments();
        x.refresh();
        x.remove(5);
        for (int number = 0; number < 7; number++) {
            Checks.due("object(0, " + number + ", 3)", x.object(0, number, 3), number == 0 ? 1 : 0);
        }
        Checks.put(x, 6, "(0 )");
        Checks.due("replaced", x.object(1, 0, 3), 0);
        Checks.due("replaced, its id is still there", x.object(1, 1, 2), 6);
        x.flush();
        Checks.due("the new one", x.object(2, 0, 3), 1);
    }

    private static void objectTestsInOrder() {
        Checks.about("REFUSED is tested first, then what the call names");
        BlockSearch x = new BlockSearch();
        Checks.due("no segment", x.object(0, 0, 0), NONE);
        Checks.due("REFUSED before NONE", x.object(0, 0, 5), REFUSED);
        Checks.due("REFUSED before NONE", x.object(-1, -1, 14), REFUSED);
    }

    private static void typePathsAndFields() {
        Checks.about("18: REFUSED if path or f is not 0 to 3");
        BlockSearch x = new BlockSearch();
        for (int path = -2; path <= 5; path++) {
            for (int f = -2; f <= 5; f++) {
                Checks.due("type(" + path + ", " + f + ")", x.type(path, f),
                        within(path, 0, 3) && within(f, 0, 3) ? 0 : REFUSED);
            }
        }
        for (int far : Checks.FAR) {
            Checks.due("type(" + far + ", 0)", x.type(far, 0), REFUSED);
            Checks.due("type(0, " + far + ")", x.type(0, far), REFUSED);
            Checks.due("type(" + far + ", " + far + ")", x.type(far, far), REFUSED);
        }
    }

    private static void typeBeforeAndAfterAdd() {
        Checks.about("18: The TYPE in the MAPPING: 0 none, 1 NUMBER, 2 TEXT");
        String[] with = {"(0 X )", "(0 (1 X ) )", "(0 (1 (2 X ) ) )", "(0 (3 X ) )"};
        for (int path = 0; path < 4; path++) {
            for (int f = 0; f < 4; f++) {
                BlockSearch x = new BlockSearch();
                BlockSearch y = new BlockSearch();
                Checks.lay(x, with[path].replace("X", "n" + f + ":0"));
                Checks.lay(y, with[path].replace("X", "t" + f + ":0"));
                Checks.due("the draft sets no type", x.type(path, f), 0);
                x.add(0);
                y.add(0);
                for (int i = 0; i < 16; i++) {
                    boolean here = i == 4 * path + f;
                    Checks.due("number", x.type(i / 4, i % 4), here ? 1 : 0);
                    Checks.due("text", y.type(i / 4, i % 4), here ? 2 : 0);
                }
            }
        }
    }

    private static void countWhat() {
        Checks.about("19: REFUSED for others");
        BlockSearch none = new BlockSearch();
        BlockSearch six = new BlockSearch();
        for (int id = 0; id < 6; id++) {
            Checks.put(six, id, "(0 )");
            six.flush();
        }
        for (int what = -3; what <= 45; what++) {
            boolean single = within(what, 0, 9);
            boolean bySegment = within(what, 20, 25) || within(what, 30, 35);
            Checks.due("count(" + what + ") of none", none.count(what), single ? 0 : bySegment ? NONE : REFUSED);
            Checks.due("count(" + what + ") of six refused", six.count(what) == REFUSED, !single && !bySegment);
            Checks.due("count(" + what + ") of six none", six.count(what) == NONE, false);
        }
        for (int far : Checks.FAR) {
            Checks.due("count(" + far + ")", none.count(far), REFUSED);
            Checks.due("count(" + far + ")", six.count(far), REFUSED);
        }
    }

    private static void countOfEachSegment() {
        Checks.about("19: 20 + k: OBJECTS in SEGMENT k (0 to 5; NONE if it is not there); 30 + k: LIVE DOCUMENTS in it");
        BlockSearch x = new BlockSearch();
        for (int have = 0; have <= 6; have++) {
            Checks.due("count(0)", x.count(0), have);
            for (int k = 0; k < 6; k++) {
                Checks.due("count(20 + " + k + ") of " + have, x.count(20 + k), k < have ? k + 2 : NONE);
                Checks.due("count(30 + " + k + ") of " + have, x.count(30 + k), k < have ? 2 : NONE);
            }
            if (have < 6) {
                Checks.put(x, 2 * have, "(0 " + "(3 ) ".repeat(have) + ")");
                Checks.put(x, 2 * have + 1, "(0 )");
                Checks.due("flush()", x.flush(), have + 2);
            }
        }
    }

    private static void countOfAnAllDeletedSegment() {
        Checks.about("19: 30 + k: LIVE DOCUMENTS in it (NONE likewise)");
        BlockSearch x = twoSegments();
        Checks.due("two live", x.count(30), 2);
        x.remove(4);
        Checks.due("one live", x.count(30), 1);
        x.remove(5);
        Checks.due("none live", x.count(30), 0);
        Checks.due("its objects", x.count(20), 7);
        Checks.due("it is still there", x.count(0), 2);
        Checks.due("the next one", x.count(31), 1);
        Checks.due("none behind", x.count(32), NONE);
        x.merge(0, 2);
        Checks.due("merged", x.count(30), 1);
        Checks.due("none behind", x.count(31), NONE);
        Checks.due("none behind", x.count(21), NONE);
    }

    private static void countDraftAndBuffer() {
        Checks.about("19: 1: OBJECTS in the DRAFT; 2: OBJECTS in the BUFFER");
        BlockSearch x = new BlockSearch();
        for (int size = 1; size <= 10; size++) {
            x.open(size == 1 ? 0 : 1);
            Checks.due("count(1)", x.count(1), size);
            if (size > 1) {
                x.close();
            }
            Checks.due("count(1), closed", x.count(1), size);
        }
        x.close();
        Checks.due("count(1), complete", x.count(1), 10);
        Checks.due("count(2), not added", x.count(2), 0);
        x.add(0);
        Checks.due("count(1), added", x.count(1), 0);
        Checks.due("count(2)", x.count(2), 10);
        Checks.put(x, 0, "(0 )");
        Checks.due("count(2), a deleted one too", x.count(2), 11);
        x.flush();
        Checks.due("count(2), flushed", x.count(2), 0);
    }

    private static void countLiveAndDeleted() {
        Checks.about("19: 3: LIVE DOCUMENTS in BUFFER and SEGMENTS together; 4: DELETED ones in SEGMENTS");
        BlockSearch x = twoSegments();
        Checks.put(x, 7, "(0 )");
        Checks.put(x, 8, "(0 )");
        Checks.due("all live", x.count(3), 5);
        Checks.due("none deleted", x.count(4), 0);
        x.remove(8);
        Checks.due("deleted in the buffer", x.count(3), 4);
        Checks.due("that is no segment", x.count(4), 0);
        x.remove(4);
        x.remove(6);
        Checks.due("deleted in two segments", x.count(3), 2);
        Checks.due("both", x.count(4), 2);
        Checks.put(x, 5, "(0 )");
        Checks.due("replaced", x.count(3), 2);
        Checks.due("one more is deleted", x.count(4), 3);
        x.merge(0, 2);
        Checks.due("live", x.count(3), 2);
        Checks.due("none is left", x.count(4), 0);
        Checks.due("no segment is left", x.count(0), 0);
    }

    private static void countSoFar() {
        Checks.about("19: 5: DOCUMENTS added so far; 6: how often a TYPE was set; 9: DELETED that merge left out so far");
        BlockSearch x = twoSegments();
        Checks.due("added", x.count(5), 3);
        Checks.due("types", x.count(6), 1);
        Checks.due("left out", x.count(9), 0);
        x.remove(4);
        Checks.due("removed, not merged", x.count(9), 0);
        x.merge(0, 2);
        Checks.due("one left out", x.count(9), 1);
        Checks.put(x, 5, "(0 n0:1 n1:1 )");
        Checks.due("added", x.count(5), 4);
        Checks.due("types", x.count(6), 2);
        x.flush();
        x.merge(0, 2);
        Checks.due("two left out", x.count(9), 2);
        Checks.put(x, 9, "(0 )");
        x.remove(9);
        x.flush();
        Checks.due("flush leaves out too, but is not merge", x.count(9), 2);
        Checks.due("removed ones were added", x.count(5), 5);
        x.remove(5);
        x.remove(6);
        Checks.put(x, 9, "(0 )");
        x.flush();
        x.remove(9);
        Checks.due("merge(0, 2), none live", x.merge(0, 2), 0);
        Checks.due("five left out", x.count(9), 5);
    }

    private static void countSnapshotAndHits() {
        Checks.about("19: 7: DOCUMENTS in the SNAPSHOT, LIVE or not (0 without one); 8: HITS");
        BlockSearch x = twoSegments();
        Checks.due("without one", x.count(7), 0);
        Checks.ask(x, Checks.ANY, 0, 0);
        x.search();
        Checks.due("no hits", x.count(8), 0);
        x.remove(4);
        x.refresh();
        Checks.due("live or not", x.count(7), 3);
        Checks.due("not searched yet", x.count(8), 0);
        x.search();
        Checks.due("live ones alone", x.count(8), 2);
        x.merge(0, 2);
        Checks.due("the snapshot stays", x.count(7), 3);
        x.refresh();
        Checks.due("a new one", x.count(7), 2);
        Checks.due("the hits stay", x.count(8), 2);
        Checks.ask(x, Checks.SOME, 3, 0);
        x.search();
        Checks.due("none", x.count(8), 0);
    }
}
