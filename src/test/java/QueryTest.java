/** Promises 12 to 16: token, clear, search, hit and score. */
public final class QueryTest {
    public static void main(String[] args) {
        tokenParts();
        tokenPaths();
        clearEmpties();
        hasWeights();
        hasCountsDeleted();
        hasByPath();
        leaves();
        joined();
        nestModes();
        nestDeep();
        nestWithinOneObject();
        searchOrder();
        hitFacts();
        scoreAnswers();
        wholeQuery();
        Checks.end();
    }

    private static void tokenParts() {
        BlockSearch x = new BlockSearch();
        Checks.due("BOTH", x.token(5, 0, 0), 2);
        Checks.due("NOT", x.token(7, 0, 0), 2);
        Checks.due("EITHER", x.token(6, 0, 0), 3);
        Checks.due("ANY", x.token(4, 0, 0), 2);
        Checks.due("NEST", x.token(8, 3, 4), 2);
        Checks.due("SOME", x.token(3, 3, 0), 1);
        Checks.due("HAS", x.token(0, 0, 25), 0);
        Checks.due("complete", x.token(4, 0, 0), BlockSearch.NONE);
        Checks.due("refused first", x.token(9, 0, 0), BlockSearch.REFUSED);
        Checks.due("clear()", x.clear(), 7);
    }

    private static void tokenPaths() {
        BlockSearch x = new BlockSearch();
        for (int mode = 0; mode <= 4; mode++) {
            Checks.due("NEST 0 at 0", x.token(8, 0, mode), BlockSearch.NONE);
            Checks.due("NEST 2 at 0", x.token(8, 2, mode), BlockSearch.NONE);
        }
        Checks.due("BOTH", x.token(5, 0, 0), 2);
        Checks.due("NEST 1 at 0", x.token(8, 1, 0), 2);
        Checks.due("BOTH at 1", x.token(5, 0, 0), 3);
        Checks.due("NEST 1 at 1", x.token(8, 1, 0), BlockSearch.NONE);
        Checks.due("NEST 3 at 1", x.token(8, 3, 0), BlockSearch.NONE);
        Checks.due("NEST 2 at 1", x.token(8, 2, 0), 3);
        for (int path = 0; path < 4; path++) {
            Checks.due("NEST at 2", x.token(8, path, 0), BlockSearch.NONE);
        }
        Checks.due("ANY at 2", x.token(4, 0, 0), 2);
        Checks.due("NEST 3 at 1, second part", x.token(8, 3, 0), BlockSearch.NONE);
        Checks.due("NEST 2 at 1, second part", x.token(8, 2, 0), 2);
        Checks.due("ANY at 2", x.token(4, 0, 0), 1);
        Checks.due("NEST 2 at 0, second part", x.token(8, 2, 0), BlockSearch.NONE);
        Checks.due("NEST 3 at 0, second part", x.token(8, 3, 0), 1);
        for (int path = 0; path < 4; path++) {
            Checks.due("NEST at 3", x.token(8, path, 0), BlockSearch.NONE);
        }
        Checks.due("NOT at 3", x.token(7, 0, 0), 1);
        Checks.due("ANY at 3", x.token(4, 0, 0), 0);
        Checks.due("NEST, complete", x.token(8, 1, 0), BlockSearch.NONE);
        Checks.due("clear()", x.clear(), 10);
    }

    private static void clearEmpties() {
        BlockSearch x = new BlockSearch();
        Checks.due("clear, empty", x.clear(), 0);
        x.token(8, 1, 0);
        x.token(8, 2, 0);
        Checks.due("clear, not complete", x.clear(), 2);
        Checks.due("clear again", x.clear(), 0);
        Checks.due("at path 0 again", x.token(8, 1, 0), 1);
        Checks.due("ANY", x.token(4, 0, 0), 0);
        x.refresh();
        Checks.due("search()", x.search(), 0);
        x.clear();
        Checks.due("search, empty", x.search(), BlockSearch.NONE);
        Checks.due("score, empty", x.score(0), BlockSearch.NONE);
    }

    private static void hasWeights() {
        BlockSearch x = new BlockSearch();
        Checks.put(x, 0, "(0 t0:1,2,1 t1:9 )");
        Checks.put(x, 1, "(0 t0:2,2,2,2,2,2,2,2 )");
        Checks.put(x, 2, "(0 t0:3,2 )");
        x.flush();
        Checks.put(x, 3, "(0 n2:1 t1:1 )");
        Checks.put(x, 4, "(0 )");
        x.flush();
        x.refresh();
        Checks.same("one of five, twice", Checks.answer(x, Checks.HAS, 0, 1), "0=12");
        Checks.same("three of five", Checks.answer(x, Checks.HAS, 0, 2), "1=16 0=2 2=2");
        Checks.same("another field", Checks.answer(x, Checks.HAS, 1, 1), "3=6");
        Checks.same("none", Checks.answer(x, Checks.HAS, 0, 25), "");
        Checks.same("not none", Checks.answer(x, Checks.NOT, 0, 0, Checks.HAS, 0, 25), "0=0 1=0 2=0 3=0 4=0");
        Checks.same("a number is no word", Checks.answer(x, Checks.HAS, 2, 1), "");
    }

    private static void hasCountsDeleted() {
        BlockSearch x = new BlockSearch();
        Checks.put(x, 0, "(0 t0:1 )");
        Checks.put(x, 1, "(0 t0:1 )");
        Checks.put(x, 2, "(0 )");
        Checks.put(x, 3, "(0 )");
        Checks.put(x, 4, "(0 )");
        x.flush();
        x.remove(0);
        x.remove(3);
        x.refresh();
        Checks.same("five with two", Checks.answer(x, Checks.HAS, 0, 1), "1=3");
        Checks.put(x, 5, "(0 )");
        x.flush();
        x.merge(0, 2);
        Checks.same("the snapshot stays", Checks.answer(x, Checks.HAS, 0, 1), "1=3");
        x.refresh();
        Checks.same("four with one", Checks.answer(x, Checks.HAS, 0, 1), "1=5");
        x.remove(1);
        x.refresh();
        Checks.same("held by a deleted one alone", Checks.answer(x, Checks.HAS, 0, 1), "");
    }

    private static void hasByPath() {
        BlockSearch x = Checks.indexed("(0 t0:1 (1 t0:1 ) (1 t0:1 ) (1 ) (3 t0:1 ) )", "(0 (1 ) (1 ) (1 ) (1 ) )");
        Checks.same("roots: 1 + 2 / 1", Checks.answer(x, Checks.HAS, 0, 1), "0=3");
        Checks.same("path 1: 1 + 7 / 2, twice", Checks.answer(x, Checks.NEST, 1, 1, Checks.HAS, 0, 1), "0=8");
        Checks.same("path 3: 1 + 1 / 1", Checks.answer(x, Checks.NEST, 3, 1, Checks.HAS, 0, 1), "0=2");
    }

    private static void leaves() {
        BlockSearch x = Checks.indexed("(0 n0:-1000 )", "(0 n0:0 )", "(0 n0:1000 n2:5 )", "(0 t1:5 )");
        Checks.same("FROM -1000", Checks.answer(x, Checks.FROM, 0, -1000), "0=1 1=1 2=1");
        Checks.same("FROM 0", Checks.answer(x, Checks.FROM, 0, 0), "1=1 2=1");
        Checks.same("FROM 1", Checks.answer(x, Checks.FROM, 0, 1), "2=1");
        Checks.same("FROM 1000", Checks.answer(x, Checks.FROM, 0, 1000), "2=1");
        Checks.same("FROM in a text", Checks.answer(x, Checks.FROM, 1, -1000), "");
        Checks.same("FROM where nothing is", Checks.answer(x, Checks.FROM, 3, -1000), "");
        Checks.same("UPTO 1000", Checks.answer(x, Checks.UPTO, 0, 1000), "0=1 1=1 2=1");
        Checks.same("UPTO 0", Checks.answer(x, Checks.UPTO, 0, 0), "0=1 1=1");
        Checks.same("UPTO -1", Checks.answer(x, Checks.UPTO, 0, -1), "0=1");
        Checks.same("UPTO -1000", Checks.answer(x, Checks.UPTO, 0, -1000), "0=1");
        Checks.same("UPTO in a text", Checks.answer(x, Checks.UPTO, 1, 1000), "");
        Checks.same("UPTO where nothing is", Checks.answer(x, Checks.UPTO, 3, 1000), "");
        Checks.same("SOME number", Checks.answer(x, Checks.SOME, 0, 0), "0=1 1=1 2=1");
        Checks.same("SOME text", Checks.answer(x, Checks.SOME, 1, 0), "3=1");
        Checks.same("SOME nothing", Checks.answer(x, Checks.SOME, 3, 0), "");
        Checks.same("ANY", Checks.answer(x, Checks.ANY, 0, 0), "0=1 1=1 2=1 3=1");
    }

    private static void joined() {
        BlockSearch x = Checks.indexed("(0 t0:1,1 n1:5 )", "(0 t0:1 )", "(0 n1:7 )", "(0 )");
        Checks.same("BOTH", Checks.answer(x, Checks.BOTH, 0, 0, Checks.HAS, 0, 1, Checks.FROM, 1, 5), "0=7");
        Checks.same("EITHER", Checks.answer(x, Checks.EITHER, 0, 0, Checks.HAS, 0, 1, Checks.FROM, 1, 5),
                "0=7 1=3 2=1");
        Checks.same("NOT", Checks.answer(x, Checks.NOT, 0, 0, Checks.HAS, 0, 1), "2=0 3=0");
        Checks.same("NOT NOT", Checks.answer(x, Checks.NOT, 0, 0, Checks.NOT, 0, 0, Checks.HAS, 0, 1), "0=0 1=0");
        Checks.same("EITHER with NOT", Checks.answer(x, Checks.EITHER, 0, 0, Checks.NOT, 0, 0, Checks.HAS, 0, 1,
                Checks.FROM, 1, 5), "0=1 2=1 3=0");
        Checks.same("BOTH in BOTH", Checks.answer(x, Checks.BOTH, 0, 0, Checks.BOTH, 0, 0, Checks.ANY, 0, 0,
                Checks.ANY, 0, 0, Checks.NOT, 0, 0, Checks.SOME, 1, 0), "1=2 3=2");
        Checks.same("EITHER in EITHER", Checks.answer(x, Checks.EITHER, 0, 0, Checks.EITHER, 0, 0, Checks.HAS, 0, 1,
                Checks.UPTO, 1, 5, Checks.UPTO, 1, 7), "0=8 1=3 2=1");
    }

    private static void nestModes() {
        BlockSearch x = Checks.indexed(
                "(0 (1 t0:1,1,1 ) (1 ) (1 t0:1 ) (1 t0:1 ) (3 t0:1 ) )",
                "(0 (1 ) (1 ) )",
                "(0 )",
                "(0 (1 t0:1,1 ) )");
        String[] want = {"0=0 3=0", "0=10 3=4", "3=4 0=3", "3=4 0=2", "0=6 3=4"};
        for (int mode = 0; mode <= 4; mode++) {
            Checks.same("NEST by " + mode, Checks.answer(x, Checks.NEST, 1, mode, Checks.HAS, 0, 1), want[mode]);
        }
        Checks.same("NOT NEST", Checks.answer(x, Checks.NOT, 0, 0, Checks.NEST, 1, 1, Checks.HAS, 0, 1), "1=0 2=0");
        Checks.same("NEST NOT", Checks.answer(x, Checks.NEST, 1, 4, Checks.NOT, 0, 0, Checks.HAS, 0, 1), "0=0 1=0");
        Checks.same("NEST ANY", Checks.answer(x, Checks.NEST, 1, 1, Checks.ANY, 0, 0), "0=4 1=2 3=1");
        Checks.same("least with 0", Checks.answer(x, Checks.NEST, 1, 3, Checks.EITHER, 0, 0, Checks.HAS, 0, 1,
                Checks.NOT, 0, 0, Checks.HAS, 0, 1), "3=4 0=0 1=0");
        Checks.same("mean with 0", Checks.answer(x, Checks.NEST, 1, 2, Checks.EITHER, 0, 0, Checks.HAS, 0, 1,
                Checks.NOT, 0, 0, Checks.HAS, 0, 1), "3=4 0=2 1=0");
    }

    private static void nestDeep() {
        BlockSearch x = Checks.indexed(
                "(0 (1 (2 n0:1 ) (2 n0:2 ) ) (1 (2 n0:3 ) ) (1 ) )",
                "(0 (3 n0:1 ) (1 (2 n0:9 ) ) )");
        Checks.same("sum of sums", Checks.answer(x, Checks.NEST, 1, 1, Checks.NEST, 2, 1, Checks.ANY, 0, 0), "0=3 1=1");
        Checks.same("greatest of sums", Checks.answer(x, Checks.NEST, 1, 4, Checks.NEST, 2, 1, Checks.ANY, 0, 0),
                "0=2 1=1");
        Checks.same("only its own children", Checks.answer(x, Checks.NEST, 1, 1, Checks.BOTH, 0, 0,
                Checks.NEST, 2, 1, Checks.UPTO, 0, 1, Checks.NEST, 2, 1, Checks.FROM, 0, 2), "0=2");
        Checks.same("not in one child", Checks.answer(x, Checks.NEST, 1, 1, Checks.BOTH, 0, 0,
                Checks.NEST, 2, 1, Checks.UPTO, 0, 1, Checks.NEST, 2, 1, Checks.FROM, 0, 3), "");
        Checks.same("a child without", Checks.answer(x, Checks.NEST, 1, 1, Checks.NOT, 0, 0,
                Checks.NEST, 2, 1, Checks.ANY, 0, 0), "0=0");
        Checks.same("path 3", Checks.answer(x, Checks.NEST, 3, 2, Checks.SOME, 0, 0), "1=1");
    }

    private static void nestWithinOneObject() {
        BlockSearch x = Checks.indexed("(0 (1 n0:3 t1:2 ) (1 n0:9 t1:4 ) )", "(0 (1 n0:9 t1:2 ) )");
        Checks.same("together", Checks.answer(x, Checks.NEST, 1, 0, Checks.BOTH, 0, 0, Checks.FROM, 0, 5,
                Checks.HAS, 1, 2), "1=0");
        Checks.same("apart", Checks.answer(x, Checks.BOTH, 0, 0, Checks.NEST, 1, 0, Checks.FROM, 0, 5,
                Checks.NEST, 1, 0, Checks.HAS, 1, 2), "0=0 1=0");
    }

    private static void searchOrder() {
        BlockSearch x = new BlockSearch();
        Checks.put(x, 9, "(0 t0:1 )");
        Checks.put(x, 8, "(0 t0:1,1 )");
        Checks.put(x, 7, "(0 )");
        x.flush();
        Checks.put(x, 3, "(0 t0:1,1 )");
        Checks.put(x, 2, "(0 t0:1 )");
        Checks.put(x, 4, "(0 t0:1,1,1 )");
        x.flush();
        x.refresh();
        Checks.same("by falling scores, then in order", Checks.answer(x, Checks.HAS, 0, 1), "4=6 8=4 3=4 9=2 2=2");
        Checks.same("all the same", Checks.answer(x, Checks.ANY, 0, 0), "9=1 8=1 7=1 3=1 2=1 4=1");
        Checks.due("the query stays", x.search(), 6);
        Checks.due("count(8)", x.count(8), 6);
        Checks.due("clear()", x.clear(), 1);
        Checks.due("hits stay", x.count(8), 6);
        Checks.same("few in place of many", Checks.answer(x, Checks.NOT, 0, 0, Checks.SOME, 0, 0), "7=0");
        Checks.due("hit(1, 0)", x.hit(1, 0), BlockSearch.NONE);
    }

    private static void hitFacts() {
        BlockSearch x = new BlockSearch();
        Checks.put(x, 19, "(0 (1 ) )");
        x.flush();
        Checks.put(x, 5, "(0 )");
        Checks.put(x, 6, "(0 (3 ) (1 (2 ) ) )");
        Checks.put(x, 7, "(0 )");
        x.flush();
        x.remove(5);
        x.refresh();
        Checks.same("hits", Checks.answer(x, Checks.ANY, 0, 0), "19=1 6=1 7=1");
        int[][] want = {{19, 1, 0, 1, 2}, {6, 1, 1, 4, 4}, {7, 1, 1, 5, 1}};
        for (int k = 0; k < 3; k++) {
            for (int what = 0; what < 5; what++) {
                Checks.due("hit(" + k + ", " + what + ")", x.hit(k, what), want[k][what]);
            }
        }
        Checks.due("hit(3, 0)", x.hit(3, 0), BlockSearch.NONE);
        Checks.due("hit(-1, 0)", x.hit(-1, 0), BlockSearch.NONE);
        Checks.due("hit(0, 5)", x.hit(0, 5), BlockSearch.REFUSED);
        Checks.due("hit(0, -1)", x.hit(0, -1), BlockSearch.REFUSED);
        Checks.due("refused first", x.hit(3, 5), BlockSearch.REFUSED);
        for (int far : Checks.FAR) {
            Checks.due("hit(far, 0)", x.hit(far, 0), BlockSearch.NONE);
            Checks.due("hit(0, far)", x.hit(0, far), BlockSearch.REFUSED);
            Checks.due("hit(far, far)", x.hit(far, far), BlockSearch.REFUSED);
        }
    }

    private static void scoreAnswers() {
        BlockSearch x = new BlockSearch();
        Checks.ask(x, Checks.HAS, 0, 1);
        Checks.due("score, no snapshot", x.score(0), BlockSearch.NONE);
        x.clear();
        Checks.put(x, 0, "(0 t0:1,1 )");
        Checks.put(x, 1, "(0 t0:2 )");
        Checks.put(x, 2, "(0 t0:1 )");
        x.flush();
        x.remove(2);
        x.refresh();
        Checks.ask(x, Checks.HAS, 0, 1);
        Checks.due("score(0)", x.score(0), 4);
        Checks.due("score(1), does not hold", x.score(1), BlockSearch.NONE);
        Checks.due("score(2), deleted", x.score(2), BlockSearch.NONE);
        for (int id : new int[] {-1, 3, 20, Integer.MIN_VALUE, Integer.MAX_VALUE}) {
            Checks.due("score(" + id + ")", x.score(id), BlockSearch.NONE);
        }
        Checks.due("no hits are made", x.count(8), 0);
        Checks.put(x, 2, "(0 t0:1 )");
        x.flush();
        Checks.due("score(2), not yet seen", x.score(2), BlockSearch.NONE);
        x.refresh();
        Checks.due("score(2), the live one", x.score(2), 2);
        x.remove(0);
        Checks.due("score(0), as it was", x.score(0), 4);
        Checks.ask(x, Checks.NOT, 0, 0, Checks.HAS, 0, 1);
        Checks.due("a score of 0", x.score(1), 0);
    }

    private static void wholeQuery() {
        BlockSearch x = Checks.indexed("(0 t0:1 (1 t0:1 (2 n0:4 ) ) (3 t1:2,2 ) )", "(0 t0:2 (1 (2 n0:5 ) ) )");
        Checks.same("twelve tokens", Checks.answer(x,
                Checks.EITHER, 0, 0,
                Checks.BOTH, 0, 0,
                Checks.HAS, 0, 1,
                Checks.NEST, 1, 1,
                Checks.BOTH, 0, 0,
                Checks.NEST, 2, 1,
                Checks.UPTO, 0, 4,
                Checks.HAS, 0, 1,
                Checks.EITHER, 0, 0,
                Checks.NEST, 3, 4,
                Checks.HAS, 1, 2,
                Checks.HAS, 0, 2), "0=11 1=3");
    }
}
