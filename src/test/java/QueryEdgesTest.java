/** The edges that promises 12 to 16 and the kinds of tokens name: at each one and on both sides of it. */
public final class QueryEdgesTest {
    private static final int REFUSED = BlockSearch.REFUSED;
    private static final int NONE = BlockSearch.NONE;
    private static final int FULL = BlockSearch.FULL;

    /** Numbers at every edge that a kind has for a or b, and beyond them. */
    private static final int[] NUMBERS = {Integer.MIN_VALUE, -1001, -1000, -999, -1, 0, 1, 2, 3, 4, 5, 24, 25, 26, 999,
        1000, 1001, Integer.MAX_VALUE};

    public static void main(String[] args) {
        tokenKindsZeroToEight();
        tokenHas();
        tokenFromAndUpto();
        tokenSome();
        tokenNotLookedAt();
        tokenNestNumbers();
        tokenNestAtEachPath();
        tokenPathsOfParts();
        tokenPartsStillToCome();
        tokenNotWhenComplete();
        tokenTwelveAtMost();
        tokenTestsInOrder();
        clearOfEachSize();
        clearLeavesTheRest();
        hasCountsTimes();
        hasDividesWithoutRemainder();
        scoresAddUp();
        hasCountsObjectsOfItsPath();
        hasCountsDeletedOnes();
        hasCountsDeletedOnesBelow();
        fromAndUptoAtTheirNumber();
        fromAndUptoAtTheEnds();
        someAndNothing();
        bothEitherNot();
        nestOfNoChild();
        nestOfNineChildren();
        nestMeanWithoutRemainder();
        nestOnlyOwnChildren();
        searchNeedsACompleteQuery();
        searchNeedsASnapshot();
        searchFindsNone();
        searchFindsTwenty();
        searchByTwelveTokens();
        searchLeavesDeletedOnesOut();
        searchFallingScores();
        searchKeepsTheOrderOfEqualScores();
        hitWhatZeroToFour();
        hitNumbers();
        hitOfTheSnapshotThatWasSearched();
        scoreTakesAnyInt();
        scoreNeedsAll();
        scoreOfZeroIsNotNone();
        scoreMakesNoHits();
        Checks.end();
    }

    private static boolean within(int v, int least, int most) {
        return v >= least && v <= most;
    }

    /** The answer to a token on a new object. */
    private static int first(int kind, int a, int b) {
        return new BlockSearch().token(kind, a, b);
    }

    private static String call(int kind, int a, int b) {
        return "token(" + kind + ", " + a + ", " + b + ")";
    }

    private static void tokenKindsZeroToEight() {
        Checks.about("12: kind 0 to 8");
        int[] want = {0, 0, 0, 0, 0, 2, 2, 1, 1};
        for (int kind = -2; kind <= 10; kind++) {
            Checks.due(call(kind, 1, 1), first(kind, 1, 1), within(kind, 0, 8) ? want[kind] : REFUSED);
        }
        for (int far : Checks.FAR) {
            Checks.due(call(far, 1, 1), first(far, 1, 1), REFUSED);
        }
    }

    private static void tokenHas() {
        Checks.about("12: for HAS a is 0 to 3, b is 0 to 25");
        for (int a : NUMBERS) {
            for (int b : NUMBERS) {
                boolean good = within(a, 0, 3) && within(b, 0, 25);
                Checks.due(call(Checks.HAS, a, b), first(Checks.HAS, a, b), good ? 0 : REFUSED);
            }
        }
    }

    private static void tokenFromAndUpto() {
        Checks.about("12: for FROM and UPTO a is 0 to 3, b is -1000 to 1000");
        for (int a : NUMBERS) {
            for (int b : NUMBERS) {
                boolean good = within(a, 0, 3) && within(b, -1000, 1000);
                Checks.due(call(Checks.FROM, a, b), first(Checks.FROM, a, b), good ? 0 : REFUSED);
                Checks.due(call(Checks.UPTO, a, b), first(Checks.UPTO, a, b), good ? 0 : REFUSED);
            }
        }
    }

    private static void tokenSome() {
        Checks.about("12: for SOME a is 0 to 3 (other numbers are not looked at)");
        for (int a : NUMBERS) {
            for (int b : NUMBERS) {
                Checks.due(call(Checks.SOME, a, b), first(Checks.SOME, a, b), within(a, 0, 3) ? 0 : REFUSED);
            }
        }
    }

    private static void tokenNotLookedAt() {
        Checks.about("12: other numbers are not looked at");
        for (int a : NUMBERS) {
            for (int b : NUMBERS) {
                Checks.due(call(Checks.ANY, a, b), first(Checks.ANY, a, b), 0);
                Checks.due(call(Checks.BOTH, a, b), first(Checks.BOTH, a, b), 2);
                Checks.due(call(Checks.EITHER, a, b), first(Checks.EITHER, a, b), 2);
                Checks.due(call(Checks.NOT, a, b), first(Checks.NOT, a, b), 1);
            }
        }
        BlockSearch x = twoDocuments();
        for (int far : Checks.FAR) {
            Checks.same("the same hits", Checks.answer(x, Checks.BOTH, far, far, Checks.EITHER, far, far,
                    Checks.SOME, 0, far, Checks.ANY, far, far, Checks.NOT, far, far, Checks.SOME, 1, far), "0=2");
        }
    }

    /** Document 0 has a number in field 0, document 1 a text in field 1. */
    private static BlockSearch twoDocuments() {
        BlockSearch x = Checks.indexed("(0 n0:5 )", "(0 t1:5 )");
        return x;
    }

    private static void tokenNestNumbers() {
        Checks.about("12: for NEST b is 0 to 4, and a is 0 to 3");
        for (int a : NUMBERS) {
            for (int b : NUMBERS) {
                boolean good = within(a, 0, 3) && within(b, 0, 4);
                int want = a == 1 || a == 3 ? 1 : NONE;
                Checks.due(call(Checks.NEST, a, b), first(Checks.NEST, a, b), good ? want : REFUSED);
            }
        }
    }

    private static void tokenNestAtEachPath() {
        Checks.about("12: for NEST NONE if the PARENT of PATH a is not the PATH at which the TOKEN stands");
        int[][] towards = {{}, {1}, {1, 2}, {3}};
        boolean[][] takes = {{false, true, false, true}, {false, false, true, false}, new boolean[4], new boolean[4]};
        for (int path = 0; path < 4; path++) {
            for (int a = 0; a < 4; a++) {
                for (int b = 0; b <= 4; b++) {
                    BlockSearch x = new BlockSearch();
                    for (int step : towards[path]) {
                        Checks.due("NEST " + step, x.token(Checks.NEST, step, 0), 1);
                    }
                    Checks.due("NEST " + a + " at " + path, x.token(Checks.NEST, a, b), takes[path][a] ? 1 : NONE);
                    Checks.due("clear()", x.clear(), towards[path].length + (takes[path][a] ? 1 : 0));
                }
            }
        }
    }

    private static void tokenPathsOfParts() {
        Checks.about("its parts stand at the same PATH, but for NEST");
        BlockSearch x = new BlockSearch();
        Checks.due("BOTH at 0", x.token(Checks.BOTH, 0, 0), 2);
        Checks.due("NOT at 0", x.token(Checks.NOT, 0, 0), 2);
        Checks.due("NEST 2 at 0", x.token(Checks.NEST, 2, 0), NONE);
        Checks.due("NEST 1 at 0", x.token(Checks.NEST, 1, 0), 2);
        Checks.due("EITHER at 1", x.token(Checks.EITHER, 0, 0), 3);
        Checks.due("NOT at 1", x.token(Checks.NOT, 0, 0), 3);
        Checks.due("NEST 1 at 1", x.token(Checks.NEST, 1, 0), NONE);
        Checks.due("NEST 2 at 1", x.token(Checks.NEST, 2, 0), 3);
        Checks.due("NEST 2 at 2", x.token(Checks.NEST, 2, 0), NONE);
        Checks.due("ANY at 2", x.token(Checks.ANY, 0, 0), 2);
        Checks.due("NEST 3 at 1, the second part", x.token(Checks.NEST, 3, 0), NONE);
        Checks.due("NEST 2 at 1, the second part", x.token(Checks.NEST, 2, 0), 2);
        Checks.due("ANY at 2", x.token(Checks.ANY, 0, 0), 1);
        Checks.due("NEST 2 at 0, the second part", x.token(Checks.NEST, 2, 0), NONE);
        Checks.due("NEST 3 at 0, the second part", x.token(Checks.NEST, 3, 0), 1);
        Checks.due("NEST 1 at 3", x.token(Checks.NEST, 1, 0), NONE);
        Checks.due("ANY at 3", x.token(Checks.ANY, 0, 0), 0);
        Checks.due("clear()", x.clear(), 11);
        Checks.due("NEST 1 at 0, the first again", x.token(Checks.NEST, 1, 0), 1);
    }

    private static void tokenPartsStillToCome() {
        Checks.about("12: how many parts are still to come then");
        BlockSearch x = new BlockSearch();
        int[][] row = {{5, 2}, {6, 3}, {4, 2}, {7, 2}, {8, 2}, {5, 3}, {0, 2}, {1, 1}, {6, 2}, {2, 1}, {3, 0}};
        for (int[] step : row) {
            Checks.due("kind " + step[0], x.token(step[0], 1, 1), step[1]);
        }
        Checks.due("clear()", x.clear(), row.length);
    }

    private static void tokenNotWhenComplete() {
        Checks.about("12: NONE if the QUERY is COMPLETE");
        for (int nots = 0; nots <= 11; nots++) {
            BlockSearch x = new BlockSearch();
            for (int i = 0; i < nots; i++) {
                Checks.due("NOT", x.token(Checks.NOT, 0, 0), 1);
            }
            Checks.due("ANY", x.token(Checks.ANY, 0, 0), 0);
            for (int kind = 0; kind <= 8; kind++) {
                Checks.due("kind " + kind + " behind " + nots, x.token(kind, 1, 1), NONE);
            }
            Checks.due("clear()", x.clear(), nots + 1);
        }
    }

    private static void tokenTwelveAtMost() {
        Checks.about("12: FULL if it has 12");
        BlockSearch x = new BlockSearch();
        for (int i = 1; i <= 12; i++) {
            Checks.due("NOT number " + i, x.token(Checks.NOT, 0, 0), 1);
        }
        for (int kind = 0; kind <= 8; kind++) {
            Checks.due("a thirteenth of kind " + kind, x.token(kind, 1, 1), FULL);
        }
        Checks.due("clear()", x.clear(), 12);
        for (int i = 1; i <= 12; i++) {
            Checks.due("BOTH number " + i, x.token(Checks.BOTH, 0, 0), i + 1);
        }
        Checks.due("a thirteenth", x.token(Checks.ANY, 0, 0), FULL);
        Checks.due("clear()", x.clear(), 12);
        for (int i = 1; i <= 11; i++) {
            Checks.due("NOT number " + i, x.token(Checks.NOT, 0, 0), 1);
        }
        Checks.due("a twelfth", x.token(Checks.ANY, 0, 0), 0);
        Checks.due("clear()", x.clear(), 12);
    }

    private static void tokenTestsInOrder() {
        Checks.about("REFUSED is tested first, then what the call names, in that order");
        BlockSearch x = new BlockSearch();
        Checks.due("REFUSED before NONE, NEST", x.token(Checks.NEST, 2, 5), REFUSED);
        Checks.due("REFUSED before NONE, NEST", x.token(Checks.NEST, 4, 0), REFUSED);
        for (int i = 1; i <= 12; i++) {
            x.token(Checks.NOT, 0, 0);
        }
        Checks.due("REFUSED before FULL", x.token(9, 0, 0), REFUSED);
        Checks.due("REFUSED before FULL", x.token(Checks.HAS, 0, 26), REFUSED);
        Checks.due("NONE before FULL", x.token(Checks.NEST, 2, 0), NONE);
        Checks.due("NONE before FULL", x.token(Checks.NEST, 0, 0), NONE);
        Checks.due("FULL", x.token(Checks.NEST, 1, 0), FULL);
        x.clear();
        x.token(Checks.ANY, 0, 0);
        Checks.due("REFUSED before NONE, complete", x.token(-1, 0, 0), REFUSED);
        Checks.due("REFUSED before NONE, complete", x.token(Checks.FROM, 0, 1001), REFUSED);
    }

    private static void clearOfEachSize() {
        Checks.about("13: The QUERY is empty: how many TOKENS it had");
        BlockSearch x = new BlockSearch();
        x.refresh();
        for (int size = 0; size <= 12; size++) {
            for (int i = 0; i < size; i++) {
                x.token(Checks.NOT, 0, 0);
            }
            Checks.due("not complete, of " + size, x.clear(), size);
            Checks.due("again", x.clear(), 0);
            Checks.due("search()", x.search(), NONE);
        }
        x.token(Checks.NEST, 1, 0);
        x.token(Checks.ANY, 0, 0);
        Checks.due("search()", x.search(), 0);
        Checks.due("complete, of two", x.clear(), 2);
        Checks.due("search()", x.search(), NONE);
        Checks.due("the first stands at path 0 again", x.token(Checks.NEST, 3, 0), 1);
    }

    private static void clearLeavesTheRest() {
        Checks.about("13: The QUERY is empty, and nothing else");
        BlockSearch x = twoDocuments();
        Checks.ask(x, Checks.ANY, 0, 0);
        x.search();
        Checks.due("clear()", x.clear(), 1);
        Checks.same("the hits stay", Checks.found(x), "0=1 1=1");
        Checks.due("the snapshot stays", x.count(7), 2);
        Checks.same("a new query is answered", Checks.answer(x, Checks.SOME, 1, 0), "1=1");
    }

    private static void hasCountsTimes() {
        Checks.about("HAS: FIELD a has a TEXT with WORD b. SCORE: how many times, times (1 + N / n)");
        BlockSearch x = Checks.indexed(
                "(0 t0:25,25,25,25,25,25,25,25 )",
                "(0 t0:0,25,0,0,0,0,0,25 )",
                "(0 t0:25 )",
                "(0 t0:0,0,0,0,0,0,0,24 )");
        Checks.same("eight times, twice, once, never", Checks.answer(x, Checks.HAS, 0, 25), "0=16 1=4 2=2");
        Checks.same("the last of eight alone", Checks.answer(x, Checks.HAS, 0, 24), "3=5");
        Checks.same("the word 0", Checks.answer(x, Checks.HAS, 0, 0), "3=21 1=18");
        Checks.same("a word that none has", Checks.answer(x, Checks.HAS, 0, 23), "");
        Checks.same("a field that none has", Checks.answer(x, Checks.HAS, 1, 0), "");
    }

    private static void hasDividesWithoutRemainder() {
        Checks.about("HAS: 1 + N / n (/ is without remainder)");
        for (int all = 1; all <= 20; all++) {
            for (int holding = 1; holding <= all; holding++) {
                BlockSearch x = new BlockSearch();
                for (int id = 0; id < all; id++) {
                    Checks.put(x, id, id < holding ? "(0 t2:7 )" : "(0 )");
                }
                x.flush();
                x.refresh();
                Checks.ask(x, Checks.HAS, 2, 7);
                Checks.due(holding + " of " + all, x.score(0), 1 + all / holding);
                Checks.due("the last that has it", x.score(holding - 1), 1 + all / holding);
                Checks.due("the first that has not", x.score(holding), NONE);
            }
        }
    }

    /** One of twenty roots has a word eight times, and six tokens ask for it. */
    private static void scoresAddUp() {
        Checks.about("BOTH: SCORE: their sum. EITHER: the sum of those of the parts that HOLD");
        BlockSearch x = new BlockSearch();
        Checks.put(x, 0, "(0 t0:3,3,3,3,3,3,3,3 )");
        for (int id = 1; id < 20; id++) {
            Checks.put(x, id, "(0 )");
        }
        x.flush();
        x.refresh();
        for (int kind : new int[] {Checks.BOTH, Checks.EITHER}) {
            for (int joins = 0; joins <= 5; joins++) {
                x.clear();
                for (int i = 0; i < joins; i++) {
                    x.token(kind, 0, 0);
                }
                for (int i = 0; i <= joins; i++) {
                    x.token(Checks.HAS, 0, 3);
                }
                Checks.due((joins + 1) + " times 8 * (1 + 20 / 1)", x.score(0), 168 * (joins + 1));
                Checks.due("of one without", x.score(1), NONE);
            }
        }
    }

    private static void hasCountsObjectsOfItsPath() {
        Checks.about("HAS: N is how many OBJECTS of this PATH are in the SNAPSHOT, and n how many of these HOLD it");
        BlockSearch x = new BlockSearch();
        Checks.put(x, 0, "(0 t0:1 (1 t0:1 (2 t0:1 ) (2 ) ) (1 ) (3 t0:1 ) )");
        x.flush();
        Checks.put(x, 1, "(0 (1 t0:1 (2 ) (2 ) ) (1 (2 ) ) (1 ) (3 t0:1 ) )");
        x.flush();
        Checks.put(x, 2, "(0 (1 t0:1 ) )");
        x.refresh();
        Checks.same("2 roots, 1 with it", Checks.answer(x, Checks.HAS, 0, 1), "0=3");
        Checks.same("5 of path 1, 2 with it", Checks.answer(x, Checks.NEST, 1, 1, Checks.HAS, 0, 1), "0=3 1=3");
        Checks.same("5 of path 2, 1 with it", Checks.answer(x, Checks.NEST, 1, 1, Checks.NEST, 2, 1, Checks.HAS, 0, 1),
                "0=6");
        Checks.same("2 of path 3, 2 with it", Checks.answer(x, Checks.NEST, 3, 1, Checks.HAS, 0, 1), "0=2 1=2");
    }

    private static void hasCountsDeletedOnes() {
        Checks.about("HAS: (OBJECTS of DELETED DOCUMENTS are counted in both)");
        BlockSearch x = new BlockSearch();
        for (int id = 0; id < 6; id++) {
            Checks.put(x, id, id < 2 ? "(0 t0:1 )" : "(0 )");
        }
        x.flush();
        x.refresh();
        Checks.ask(x, Checks.HAS, 0, 1);
        Checks.due("all live: 1 + 6 / 2", x.score(0), 4);
        x.remove(1);
        x.refresh();
        Checks.due("one that has it is deleted", x.score(0), 4);
        x.remove(4);
        x.remove(5);
        x.refresh();
        Checks.due("two that have not are deleted", x.score(0), 4);
        Checks.put(x, 4, "(0 )");
        x.flush();
        x.merge(0, 2);
        Checks.due("the snapshot stays", x.score(0), 4);
        x.refresh();
        Checks.due("left out by merge: 1 + 4 / 1", x.score(0), 5);
        x.remove(0);
        x.refresh();
        Checks.due("has it, but is deleted", x.score(0), NONE);
        Checks.due("search()", x.search(), 0);
    }

    private static void hasCountsDeletedOnesBelow() {
        Checks.about("HAS: (OBJECTS of DELETED DOCUMENTS are counted in both)");
        String[] rows = {"", "(0 X X Y )", "(0 (1 X X ) (1 Y ) )", "(0 X X Y )"};
        for (int path = 1; path < 4; path++) {
            String with = "(" + path + " t0:1 )";
            String without = "(" + path + " )";
            BlockSearch x = Checks.indexed(
                    rows[path].replace("X", without).replace("Y", with),
                    rows[path].replace("X", without).replace("Y", without),
                    rows[path].replace("X", without).replace("Y", with));
            x.clear();
            if (path == 2) {
                x.token(Checks.NEST, 1, 1);
            }
            x.token(Checks.NEST, path, 1);
            x.token(Checks.HAS, 0, 1);
            Checks.due("all live: 1 + 9 / 2", x.score(0), 5);
            x.remove(1);
            x.refresh();
            Checks.due("three without it are deleted", x.score(0), 5);
            x.remove(2);
            x.refresh();
            Checks.due("one with it is deleted", x.score(0), 5);
            Checks.put(x, 3, rows[path].replace("X", without).replace("Y", without));
            x.flush();
            x.merge(0, 2);
            x.refresh();
            Checks.due("left out by merge: 1 + 6 / 1", x.score(0), 7);
        }
    }

    private static void fromAndUptoAtTheirNumber() {
        Checks.about("FROM a b: FIELD a has a NUMBER of at least b. UPTO a b: of at most b");
        for (int b : new int[] {-999, -1, 0, 1, 500, 999}) {
            BlockSearch x = Checks.indexed(
                    "(0 n3:" + (b - 1) + " )",
                    "(0 n3:" + b + " )",
                    "(0 n3:" + (b + 1) + " )",
                    "(0 t2:5 )");
            Checks.same("FROM " + b, Checks.answer(x, Checks.FROM, 3, b), "1=1 2=1");
            Checks.same("UPTO " + b, Checks.answer(x, Checks.UPTO, 3, b), "0=1 1=1");
        }
    }

    private static void fromAndUptoAtTheEnds() {
        Checks.about("FROM and UPTO: b is -1000 to 1000, as NUMBERS are");
        BlockSearch x = Checks.indexed("(0 n0:-1000 )", "(0 n0:0 )", "(0 n0:1000 )", "(0 t1:1 )", "(0 )");
        Checks.same("FROM -1000", Checks.answer(x, Checks.FROM, 0, -1000), "0=1 1=1 2=1");
        Checks.same("FROM -999", Checks.answer(x, Checks.FROM, 0, -999), "1=1 2=1");
        Checks.same("FROM 1000", Checks.answer(x, Checks.FROM, 0, 1000), "2=1");
        Checks.same("UPTO 1000", Checks.answer(x, Checks.UPTO, 0, 1000), "0=1 1=1 2=1");
        Checks.same("UPTO 999", Checks.answer(x, Checks.UPTO, 0, 999), "0=1 1=1");
        Checks.same("UPTO -1000", Checks.answer(x, Checks.UPTO, 0, -1000), "0=1");
        Checks.same("FROM, a text", Checks.answer(x, Checks.FROM, 1, -1000), "");
        Checks.same("UPTO, a text", Checks.answer(x, Checks.UPTO, 1, 1000), "");
        Checks.same("FROM, nothing", Checks.answer(x, Checks.FROM, 2, -1000), "");
        Checks.same("UPTO, nothing", Checks.answer(x, Checks.UPTO, 2, 1000), "");
    }

    private static void someAndNothing() {
        Checks.about("SOME a: FIELD a does not have nothing. SCORE 1. ANY: always. SCORE 1.");
        BlockSearch x = Checks.indexed("(0 n0:0 t3:0 )", "(0 t1:0 )", "(0 (1 n2:1 ) )");
        String[] want = {"0=1", "1=1", "", "0=1"};
        for (int f = 0; f < 4; f++) {
            Checks.same("SOME " + f, Checks.answer(x, Checks.SOME, f, 0), want[f]);
        }
        Checks.same("ANY", Checks.answer(x, Checks.ANY, 0, 0), "0=1 1=1 2=1");
    }

    /** Document 0 holds SOME 0 and SOME 1, 1 the first alone, 2 the second alone, 3 neither. */
    private static void bothEitherNot() {
        Checks.about("BOTH: its two parts HOLD. EITHER: at least one of its two parts HOLDS. NOT: its part does not HOLD");
        BlockSearch x = Checks.indexed("(0 n0:1 n1:1 )", "(0 n0:1 )", "(0 n1:1 )", "(0 )");
        Checks.same("BOTH", Checks.answer(x, Checks.BOTH, 0, 0, Checks.SOME, 0, 0, Checks.SOME, 1, 0), "0=2");
        Checks.same("EITHER", Checks.answer(x, Checks.EITHER, 0, 0, Checks.SOME, 0, 0, Checks.SOME, 1, 0),
                "0=2 1=1 2=1");
        Checks.same("NOT", Checks.answer(x, Checks.NOT, 0, 0, Checks.SOME, 0, 0), "2=0 3=0");
        Checks.same("NOT ANY", Checks.answer(x, Checks.NOT, 0, 0, Checks.ANY, 0, 0), "");
        Checks.same("NOT NOT", Checks.answer(x, Checks.NOT, 0, 0, Checks.NOT, 0, 0, Checks.SOME, 0, 0), "0=0 1=0");
        Checks.same("BOTH, parts with 0", Checks.answer(x, Checks.BOTH, 0, 0, Checks.NOT, 0, 0, Checks.SOME, 0, 0,
                Checks.NOT, 0, 0, Checks.SOME, 1, 0), "3=0");
        Checks.same("EITHER, parts with 0", Checks.answer(x, Checks.EITHER, 0, 0, Checks.NOT, 0, 0, Checks.SOME, 0, 0,
                Checks.NOT, 0, 0, Checks.SOME, 1, 0), "1=0 2=0 3=0");
    }

    private static void nestOfNoChild() {
        Checks.about("NEST a b: some CHILD of PATH a HOLDS its part");
        BlockSearch x = Checks.indexed("(0 )", "(0 (3 ) )", "(0 (1 ) )", "(0 (1 ) (1 n0:1 ) )");
        for (int b = 0; b <= 4; b++) {
            Checks.same("no child, a child", Checks.answer(x, Checks.NEST, 1, b, Checks.NOT, 0, 0, Checks.SOME, 0, 0),
                    "2=0 3=0");
            Checks.same("none that holds", Checks.answer(x, Checks.NEST, 3, b, Checks.SOME, 0, 0), "");
            Checks.same("one that holds", Checks.answer(x, Checks.NEST, 1, b, Checks.SOME, 0, 0), b == 0 ? "3=0" : "3=1");
            Checks.same("none holds NOT ANY", Checks.answer(x, Checks.NEST, 1, b, Checks.NOT, 0, 0, Checks.ANY, 0, 0), "");
        }
        Checks.same("NOT NEST", Checks.answer(x, Checks.NOT, 0, 0, Checks.NEST, 1, 1, Checks.ANY, 0, 0), "0=0 1=0");
    }

    private static void nestOfNineChildren() {
        Checks.about("NEST, SCORE by b: 0: 0; 1: the sum; 2: the sum divided by how many they are; 3: the least; "
                + "4: the greatest");
        BlockSearch x = new BlockSearch();
        Checks.put(x, 0, "(0 (3 t0:1,1 ) (3 t0:1,1,1 ) (3 t0:1,1 ) (3 t0:1,1,1,1,1,1,1,1 ) (3 t0:1,1 ) (3 t0:1 ) "
                + "(3 t0:1,1 ) (3 t0:1,1 ) (3 t0:1,1 ) )");
        x.flush();
        x.refresh();
        int[] want = {0, 48, 5, 2, 16};
        for (int b = 0; b <= 4; b++) {
            Checks.ask(x, Checks.NEST, 3, b, Checks.HAS, 0, 1);
            Checks.due("by " + b, x.score(0), want[b]);
        }
    }

    private static void nestMeanWithoutRemainder() {
        Checks.about("NEST by 2: the sum divided by how many they are (/ is without remainder)");
        String[] children = {"", "(1 n0:1 ) ", "(1 n0:1 n1:1 ) ", "(1 n0:1 n1:1 n2:1 ) "};
        for (int left = 1; left <= 3; left++) {
            for (int right = 0; right <= 3; right++) {
                BlockSearch x = Checks.indexed("(0 " + children[left] + "(1 ) " + children[right] + ")");
                Checks.ask(x, Checks.NEST, 1, 2, Checks.EITHER, 0, 0, Checks.SOME, 0, 0, Checks.EITHER, 0, 0,
                        Checks.SOME, 1, 0, Checks.SOME, 2, 0);
                Checks.due(left + " and " + right, x.score(0), right == 0 ? left : (left + right) / 2);
            }
        }
    }

    private static void nestOnlyOwnChildren() {
        Checks.about("NEST a b: some CHILD of PATH a: one of this OBJECT alone");
        BlockSearch x = Checks.indexed(
                "(0 (1 (2 n0:1 ) ) (1 n3:3 ) )",
                "(0 (1 n3:3 (2 n0:1 ) ) (1 (2 n0:2 ) ) )",
                "(0 (1 n3:3 ) (1 (2 n0:1 ) ) )");
        Checks.same("together in one child", Checks.answer(x, Checks.NEST, 1, 1, Checks.BOTH, 0, 0,
                Checks.SOME, 3, 0, Checks.NEST, 2, 1, Checks.SOME, 0, 0), "1=2");
        Checks.same("a child without", Checks.answer(x, Checks.NEST, 1, 1, Checks.BOTH, 0, 0,
                Checks.SOME, 3, 0, Checks.NOT, 0, 0, Checks.NEST, 2, 1, Checks.SOME, 0, 0), "0=1 2=1");
    }

    private static void searchNeedsACompleteQuery() {
        Checks.about("14: NONE if the QUERY is not COMPLETE");
        BlockSearch x = twoDocuments();
        Checks.due("empty", x.search(), NONE);
        x.token(Checks.BOTH, 0, 0);
        Checks.due("two parts missing", x.search(), NONE);
        x.token(Checks.ANY, 0, 0);
        Checks.due("one part missing", x.search(), NONE);
        x.token(Checks.ANY, 0, 0);
        Checks.due("complete", x.search(), 2);
        Checks.due("it stays", x.search(), 2);
        Checks.due("all of it", x.clear(), 3);
        Checks.due("empty again", x.search(), NONE);
        Checks.same("the hits stay", Checks.found(x), "0=2 1=2");
        x.token(Checks.NOT, 0, 0);
        Checks.due("not complete again", x.search(), NONE);
        Checks.same("the hits stay", Checks.found(x), "0=2 1=2");
    }

    private static void searchNeedsASnapshot() {
        Checks.about("14: NONE if there is no SNAPSHOT");
        BlockSearch x = new BlockSearch();
        Checks.due("neither", x.search(), NONE);
        Checks.put(x, 0, "(0 )");
        x.flush();
        x.token(Checks.ANY, 0, 0);
        Checks.due("a query alone", x.search(), NONE);
        Checks.due("no hits", x.count(8), 0);
        x.refresh();
        Checks.due("both", x.search(), 1);
    }

    private static void searchFindsNone() {
        Checks.about("14: The HITS are the LIVE DOCUMENTS whose ROOT HOLDS the first TOKEN. Answers how many.");
        BlockSearch x = twoDocuments();
        Checks.same("two", Checks.answer(x, Checks.ANY, 0, 0), "0=1 1=1");
        Checks.ask(x, Checks.SOME, 2, 0);
        Checks.due("none", x.search(), 0);
        Checks.due("count(8)", x.count(8), 0);
        Checks.due("no first one", x.hit(0, 0), NONE);
        Checks.ask(x, Checks.SOME, 1, 0);
        Checks.due("one", x.search(), 1);
        Checks.due("count(8)", x.count(8), 1);
        Checks.due("no second one", x.hit(1, 0), NONE);
    }

    private static void searchFindsTwenty() {
        Checks.about("14: Answers how many");
        BlockSearch x = new BlockSearch();
        for (int id = 0; id < 20; id++) {
            Checks.put(x, id, "(0 n0:" + id + " )");
        }
        x.flush();
        x.refresh();
        for (int least = 0; least <= 20; least++) {
            Checks.ask(x, Checks.FROM, 0, least);
            Checks.due("search()", x.search(), 20 - least);
            Checks.due("the first one", x.hit(0, 0), least == 20 ? NONE : least);
            Checks.due("the last one", x.hit(19 - least, 0), least == 20 ? NONE : 19);
            Checks.due("none behind it", x.hit(20 - least, 0), NONE);
        }
    }

    private static void searchByTwelveTokens() {
        Checks.about("A QUERY is a row of at most 12 TOKENS");
        BlockSearch x = twoDocuments();
        for (int nots = 0; nots <= 11; nots++) {
            x.clear();
            for (int i = 0; i < nots; i++) {
                x.token(Checks.NOT, 0, 0);
            }
            x.token(Checks.SOME, 0, 0);
            Checks.due("search()", x.search(), 1);
            Checks.due("NOT " + nots + " times", x.hit(0, 0), nots % 2);
            Checks.due("its score", x.score(nots % 2), nots == 0 ? 1 : 0);
            Checks.due("the other one", x.score(1 - nots % 2), NONE);
        }
        Checks.same("the last token of twelve counts", Checks.answer(x, Checks.BOTH, 0, 0, Checks.BOTH, 0, 0,
                Checks.BOTH, 0, 0, Checks.BOTH, 0, 0, Checks.BOTH, 0, 0, Checks.ANY, 0, 0, Checks.ANY, 0, 0,
                Checks.ANY, 0, 0, Checks.ANY, 0, 0, Checks.ANY, 0, 0, Checks.NOT, 0, 0, Checks.SOME, 0, 0), "1=5");
    }

    private static void searchLeavesDeletedOnesOut() {
        Checks.about("14: The HITS are the LIVE DOCUMENTS of the SNAPSHOT");
        BlockSearch x = twoDocuments();
        x.remove(0);
        Checks.same("deleted later", Checks.answer(x, Checks.ANY, 0, 0), "0=1 1=1");
        x.refresh();
        Checks.same("deleted in it", Checks.answer(x, Checks.ANY, 0, 0), "1=1");
        Checks.put(x, 1, "(0 n0:1 )");
        x.flush();
        Checks.same("replaced later", Checks.answer(x, Checks.SOME, 1, 0), "1=1");
        x.refresh();
        Checks.same("replaced in it", Checks.answer(x, Checks.SOME, 1, 0), "");
        Checks.same("by the new one", Checks.answer(x, Checks.SOME, 0, 0), "1=1");
        x.remove(1);
        x.refresh();
        Checks.same("none live", Checks.answer(x, Checks.ANY, 0, 0), "");
        Checks.due("three in it", x.count(7), 3);
    }

    /** Field f of 0 to 3 is there in documents with more than f fields, so a score says how many. */
    private static void searchFallingScores() {
        Checks.about("14: by falling SCORES");
        String[] fields = {"", "n0:1 ", "n0:1 n1:1 ", "n0:1 n1:1 n2:1 "};
        int[][] rows = {{0, 1, 2, 3}, {3, 2, 1, 0}, {1, 3, 0, 2}, {2, 0, 3, 1}};
        for (int[] row : rows) {
            BlockSearch x = new BlockSearch();
            for (int many : row) {
                Checks.put(x, many, "(0 " + fields[many] + ")");
                if (many == 2) {
                    x.flush();
                }
            }
            x.flush();
            x.refresh();
            Checks.same("falling", Checks.answer(x, Checks.EITHER, 0, 0, Checks.NOT, 0, 0, Checks.SOME, 3, 0,
                    Checks.EITHER, 0, 0, Checks.SOME, 0, 0, Checks.EITHER, 0, 0, Checks.SOME, 1, 0, Checks.SOME, 2, 0),
                    "3=3 2=2 1=1 0=0");
        }
    }

    private static void searchKeepsTheOrderOfEqualScores() {
        Checks.about("14: those with the same SCORE in the order of SEGMENTS and numbers");
        BlockSearch x = new BlockSearch();
        int[] ids = {19, 0, 7, 6, 18, 1, 9, 3};
        for (int i = 0; i < ids.length; i++) {
            Checks.put(x, ids[i], i % 2 == 0 ? "(0 (3 ) )" : "(0 )");
            if (i == 2 || i == 4) {
                x.flush();
            }
        }
        x.flush();
        x.refresh();
        Checks.same("all the same", Checks.answer(x, Checks.ANY, 0, 0), "19=1 0=1 7=1 6=1 18=1 1=1 9=1 3=1");
        Checks.same("two scores", Checks.answer(x, Checks.EITHER, 0, 0, Checks.ANY, 0, 0, Checks.NEST, 3, 1,
                Checks.ANY, 0, 0), "19=2 7=2 18=2 9=2 0=1 6=1 1=1 3=1");
        Checks.same("all with 0", Checks.answer(x, Checks.NOT, 0, 0, Checks.SOME, 0, 0),
                "19=0 0=0 7=0 6=0 18=0 1=0 9=0 3=0");
    }

    private static void hitWhatZeroToFour() {
        Checks.about("15: REFUSED for another what");
        BlockSearch x = twoDocuments();
        for (int what = -2; what <= 6; what++) {
            Checks.due("no hits, what " + what, x.hit(0, what), within(what, 0, 4) ? NONE : REFUSED);
        }
        Checks.same("hits", Checks.answer(x, Checks.SOME, 1, 0), "1=1");
        int[] want = {1, 1, 0, 1, 1};
        for (int what = -2; what <= 6; what++) {
            boolean good = within(what, 0, 4);
            Checks.due("hit(0, " + what + ")", x.hit(0, what), good ? want[what] : REFUSED);
            Checks.due("hit(1, " + what + ")", x.hit(1, what), good ? NONE : REFUSED);
            Checks.due("hit(-1, " + what + ")", x.hit(-1, what), good ? NONE : REFUSED);
        }
        for (int far : Checks.FAR) {
            Checks.due("hit(0, " + far + ")", x.hit(0, far), REFUSED);
            Checks.due("hit(" + far + ", " + far + ")", x.hit(far, far), REFUSED);
        }
    }

    private static void hitNumbers() {
        Checks.about("15: the k-th HIT (0 the first one); NONE if there is none such");
        BlockSearch x = new BlockSearch();
        for (int id = 0; id < 3; id++) {
            Checks.put(x, 10 + id, "(0 n0:" + id + " )");
        }
        x.flush();
        x.refresh();
        for (int least = 3; least >= 0; least--) {
            Checks.ask(x, Checks.FROM, 0, least);
            int many = x.search();
            Checks.due("search()", many, 3 - least);
            for (int k = -1; k <= 4; k++) {
                Checks.due("hit(" + k + ", 0) of " + many, x.hit(k, 0), within(k, 0, many - 1) ? 10 + least + k : NONE);
            }
            for (int far : Checks.FAR) {
                Checks.due("hit(" + far + ", 0)", x.hit(far, 0), NONE);
            }
        }
    }

    private static void hitOfTheSnapshotThatWasSearched() {
        Checks.about("15: the number of its SEGMENT, of its ROOT there, both in the SNAPSHOT that was searched");
        BlockSearch x = new BlockSearch();
        for (int id = 0; id < 6; id++) {
            Checks.put(x, 2 * id, "(0 (1 (2 ) ) (3 ) )");
            Checks.put(x, 2 * id + 1, "(0 )");
            x.flush();
        }
        x.refresh();
        Checks.ask(x, Checks.ANY, 0, 0);
        Checks.due("search()", x.search(), 12);
        x.remove(0);
        x.merge(0, 6);
        x.refresh();
        for (int k = 0; k < 12; k++) {
            Checks.due("id", x.hit(k, 0), k);
            Checks.due("segment", x.hit(k, 2), k / 2);
            Checks.due("root", x.hit(k, 3), k % 2 == 0 ? 3 : 4);
            Checks.due("objects", x.hit(k, 4), k % 2 == 0 ? 4 : 1);
        }
        Checks.due("search()", x.search(), 11);
        Checks.due("the first one's segment", x.hit(0, 2), 0);
        Checks.due("its root", x.hit(0, 3), 0);
        Checks.due("the last one's segment", x.hit(10, 2), 0);
        Checks.due("its root", x.hit(10, 3), 25);
    }

    private static void scoreTakesAnyInt() {
        Checks.about("16: this ID (any int)");
        BlockSearch x = new BlockSearch();
        Checks.put(x, 0, "(0 )");
        Checks.put(x, 19, "(0 )");
        x.flush();
        x.refresh();
        Checks.ask(x, Checks.ANY, 0, 0);
        Checks.due("score(0)", x.score(0), 1);
        Checks.due("score(19)", x.score(19), 1);
        for (int id : new int[] {-1, 1, 18, 20, Integer.MIN_VALUE, Integer.MAX_VALUE}) {
            Checks.due("score(" + id + ")", x.score(id), NONE);
        }
    }

    private static void scoreNeedsAll() {
        Checks.about("16: NONE if not, or there is no such one, no SNAPSHOT, or the QUERY is not COMPLETE");
        BlockSearch x = new BlockSearch();
        Checks.put(x, 0, "(0 n0:1 )");
        Checks.due("no snapshot, no query", x.score(0), NONE);
        x.token(Checks.SOME, 0, 0);
        Checks.due("no snapshot", x.score(0), NONE);
        x.refresh();
        Checks.due("in the buffer alone", x.score(0), NONE);
        x.flush();
        Checks.due("in a segment, not refreshed", x.score(0), NONE);
        x.refresh();
        Checks.due("all there", x.score(0), 1);
        x.clear();
        Checks.due("no query", x.score(0), NONE);
        x.token(Checks.NOT, 0, 0);
        Checks.due("not complete", x.score(0), NONE);
        x.token(Checks.SOME, 0, 0);
        Checks.due("does not hold", x.score(0), NONE);
        Checks.ask(x, Checks.SOME, 0, 0);
        x.remove(0);
        Checks.due("deleted later", x.score(0), 1);
        x.refresh();
        Checks.due("deleted in it", x.score(0), NONE);
        Checks.put(x, 0, "(0 n0:1 n1:1 )");
        x.flush();
        x.refresh();
        Checks.ask(x, Checks.SOME, 1, 0);
        Checks.due("the live one of two", x.score(0), 1);
    }

    private static void scoreOfZeroIsNotNone() {
        Checks.about("16: whether the first TOKEN HOLDS: its SCORE; NONE if not");
        BlockSearch x = twoDocuments();
        Checks.ask(x, Checks.NOT, 0, 0, Checks.SOME, 0, 0);
        Checks.due("does not hold", x.score(0), NONE);
        Checks.due("holds with 0", x.score(1), 0);
    }

    private static void scoreMakesNoHits() {
        Checks.about("16: score changes nothing");
        BlockSearch x = twoDocuments();
        Checks.same("hits", Checks.answer(x, Checks.SOME, 1, 0), "1=1");
        Checks.ask(x, Checks.ANY, 0, 0);
        Checks.due("score(0)", x.score(0), 1);
        Checks.due("score(5)", x.score(5), NONE);
        Checks.same("hits as they were", Checks.found(x), "1=1");
        Checks.due("the query as it was", x.clear(), 1);
    }
}
