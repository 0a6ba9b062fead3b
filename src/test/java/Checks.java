/** What the tests share: telling wrong answers, laying down documents and asking queries. */
final class Checks {
    static final int HAS = 0;
    static final int FROM = 1;
    static final int UPTO = 2;
    static final int SOME = 3;
    static final int ANY = 4;
    static final int BOTH = 5;
    static final int EITHER = 6;
    static final int NOT = 7;
    static final int NEST = 8;

    /** Ints at the ends of the range and around them, for numbers that are not as said. */
    static final int[] FAR = {Integer.MIN_VALUE, Integer.MIN_VALUE + 1, Integer.MAX_VALUE - 1, Integer.MAX_VALUE};

    private static final int[] OBJECT_FACTS = {0, 1, 2, 3, 4, 10, 11, 12, 13};

    private static int made = 0;
    private static int wrong = 0;
    private static String sentence = "";

    private Checks() {
    }

    /** The sentence of the document that the answers from here on are about; a wrong one is told with it. */
    static void about(String words) {
        sentence = " [" + words + "]";
    }

    static void due(String call, long got, long want) {
        made++;
        if (got != want) {
            wrong++;
            StackTraceElement[] stack = Thread.currentThread().getStackTrace();
            StackTraceElement at = stack[2];
            for (StackTraceElement frame : stack) {
                if (frame.getClassName().endsWith("Test")) {
                    at = frame;
                    break;
                }
            }
            System.out.println(at.getFileName() + ":" + at.getLineNumber() + ": " + call
                    + " answered " + got + ", due is " + want + sentence);
        }
    }

    static void due(String call, boolean got, boolean want) {
        due(call, got ? 1 : 0, want ? 1 : 0);
    }

    static void same(String what, String got, String want) {
        due(what + ": " + want + " became " + got + "; is it the same", got.equals(want), true);
    }

    static void end() {
        System.out.println(wrong == 0 ? made + " answers are as due" : wrong + " answers are not as due");
        if (wrong != 0) {
            System.exit(1);
        }
    }

    /**
     * Lays down what a text tells: "(1" opens an object of path 1, ")" closes, "n2:5" puts the
     * number 5 into field 2, "t0:3,4" the words 3 and 4 into field 0.
     */
    static void lay(BlockSearch x, String tree) {
        for (String part : tree.split(" ")) {
            char sign = part.charAt(0);
            if (sign == '(') {
                due(part, x.open(Integer.parseInt(part.substring(1))) > 0, true);
            } else if (sign == ')') {
                due(part, x.close() >= 0, true);
            } else if (sign == 'n') {
                due(part, x.number(part.charAt(1) - '0', Integer.parseInt(part.substring(3))), true);
            } else {
                for (String word : part.substring(3).split(",")) {
                    due(part, x.word(part.charAt(1) - '0', Integer.parseInt(word)) > 0, true);
                }
            }
        }
    }

    /** Lays down a document and adds it; the answer is that of add. */
    static int put(BlockSearch x, int id, String tree) {
        lay(x, tree);
        return x.add(id);
    }

    /** An object with documents of the ids 0, 1 and so on in one segment, and a snapshot of it. */
    static BlockSearch indexed(String... trees) {
        BlockSearch x = new BlockSearch();
        for (int id = 0; id < trees.length; id++) {
            put(x, id, trees[id]);
        }
        x.flush();
        x.refresh();
        return x;
    }

    /** A query in place of the one that was there: kind, a, b, kind, a, b, and so on. */
    static void ask(BlockSearch x, int... tokens) {
        x.clear();
        int last = -1;
        for (int i = 0; i < tokens.length; i += 3) {
            last = x.token(tokens[i], tokens[i + 1], tokens[i + 2]);
        }
        due("parts to come of the whole query", last, 0);
    }

    /** The ids of the hits with their scores, as "id=score id=score". */
    static String found(BlockSearch x) {
        StringBuilder text = new StringBuilder();
        for (int k = 0; x.hit(k, 0) >= 0; k++) {
            text.append(k == 0 ? "" : " ").append(x.hit(k, 0)).append('=').append(x.hit(k, 1));
        }
        return text.toString();
    }

    /** Asks and searches at once. */
    static String answer(BlockSearch x, int... tokens) {
        ask(x, tokens);
        x.search();
        return found(x);
    }

    /** All that can be read without changing anything. */
    static String picture(BlockSearch x) {
        StringBuilder text = new StringBuilder();
        for (int what = 0; what < 10; what++) {
            text.append(x.count(what)).append(' ');
        }
        for (int k = 0; k < 6; k++) {
            text.append(x.count(20 + k)).append(' ').append(x.count(30 + k)).append(' ');
        }
        for (int path = 0; path < 4; path++) {
            for (int f = 0; f < 4; f++) {
                text.append(x.type(path, f)).append(' ');
            }
        }
        for (int segment = 0; segment < x.count(0); segment++) {
            text.append('|').append(objects(x, segment));
        }
        for (int k = 0; k < x.count(8); k++) {
            text.append('|');
            for (int what = 0; what < 5; what++) {
                text.append(x.hit(k, what)).append(' ');
            }
        }
        for (int id = 0; id < 20; id++) {
            text.append(x.score(id)).append(' ');
        }
        return text.toString();
    }

    private static String objects(BlockSearch x, int segment) {
        StringBuilder text = new StringBuilder();
        for (int number = 0; number < x.count(20 + segment); number++) {
            for (int what : OBJECT_FACTS) {
                text.append(x.object(segment, number, what)).append(' ');
            }
        }
        return text.toString();
    }

    /** The picture and what it does not show, the draft and the query, which are used up by it. */
    static String unveiled(BlockSearch x) {
        StringBuilder text = new StringBuilder(picture(x));
        text.append("| query ").append(x.search()).append(' ');
        for (int i = 0, toCome = 1; i < 13 && toCome > 0; i++) {
            toCome = x.token(ANY, 0, 0);
            text.append(toCome).append(' ');
        }
        text.append(x.search()).append(' ').append(found(x)).append(' ').append(x.clear());
        text.append(" | draft ");
        for (int i = 0, left = 1; i < 4 && left > 0; i++) {
            left = x.close();
            text.append(left).append(' ');
        }
        text.append(x.add(19)).append(' ').append(x.wipe()).append(' ').append(x.flush()).append(' ');
        for (int segment = 0; segment < x.count(0); segment++) {
            text.append('|').append(objects(x, segment));
        }
        return text.toString();
    }

    /** Calls on an object. */
    interface Calls {
        void on(BlockSearch x);
    }

    /**
     * Two objects get the same calls, and one of them the calls that must change nothing too: all
     * that can be found out about them afterwards must be the same.
     */
    static void noTrace(String what, Calls before, Calls refused) {
        BlockSearch plain = new BlockSearch();
        BlockSearch tried = new BlockSearch();
        before.on(plain);
        before.on(tried);
        refused.on(tried);
        same(what + " changes nothing", unveiled(tried), unveiled(plain));
    }

    /** The ids of the documents of a segment, a minus before those that are deleted. */
    static String documents(BlockSearch x, int segment) {
        StringBuilder text = new StringBuilder();
        for (int number = 0; number < x.count(20 + segment); number++) {
            if (x.object(segment, number, 0) == 0) {
                text.append(text.length() == 0 ? "" : " ").append(x.object(segment, number, 3) == 1 ? "" : "-");
                text.append(x.object(segment, number, 2));
            }
        }
        return text.toString();
    }
}
