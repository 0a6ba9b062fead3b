/**
 * Long runs of calls, chosen by a fixed row of numbers, on the program and on the model side by
 * side; every answer must be the same. One run goes far beyond the 512th call: the document leaves
 * the answers there free, but no call may throw. What to call next is chosen by the model's answers.
 */
public final class ModelTest {
    private static final int RUNS = 1500;
    private static final int CALLS = 512;
    private static final int[] ODD = {-1, 4, 5, 9, 10, 14, 20, 26, 36, 1001, -1001, Integer.MIN_VALUE, Integer.MAX_VALUE};

    private final BlockSearch x = new BlockSearch();
    private final Model m = new Model();
    private final int run;
    private long state;
    private int calls = 0;
    /** The paths of the objects that are open, the latest last. */
    private final int[] openPaths = new int[16];
    private int depth = 0;

    private ModelTest(int run) {
        this.run = run;
        this.state = run * 7919L + 17;
    }

    public static void main(String[] args) {
        for (int run = 0; run < RUNS; run++) {
            new ModelTest(run).go(CALLS);
        }
        new ModelTest(RUNS).go(20 * CALLS);
        Checks.end();
    }

    private int below(int bound) {
        state = state * 6364136223846793005L + 1442695040888963407L;
        return (int) ((state >>> 33) % bound);
    }

    /** Mostly a number from 0 on, at times one that is not as said. */
    private int mostly(int bound) {
        return below(40) == 0 ? ODD[below(ODD.length)] : below(bound);
    }

    private int same(String call, int got, int want) {
        calls++;
        if (calls <= CALLS) {
            Checks.due("run " + run + " call " + calls + ": " + call, got, want);
        }
        return want;
    }

    private void go(int most) {
        while (calls < most) {
            int choice = below(100);
            if (choice < 50) {
                layAndAdd();
            } else if (choice < 60) {
                changeIndex();
            } else if (choice < 72) {
                same("refresh()", x.refresh(), m.refresh());
            } else if (choice < 90) {
                askAndSearch();
            } else if (choice < 96) {
                readSome();
            } else {
                anything();
            }
        }
    }

    private void layAndAdd() {
        int size = 1 + below(below(4) == 0 ? 11 : 4);
        if (depth == 0) {
            begin(0);
        }
        for (int i = 1; i < size; i++) {
            fill();
            if (depth > 1 && below(2) == 0) {
                finish();
            }
            begin(childPath());
        }
        fill();
        int left = below(30) == 0 ? 1 : 0;
        while (depth > left) {
            finish();
        }
        int id = mostly(below(3) == 0 ? 20 : 6);
        int got = same("add(" + id + ")", x.add(id), m.add(id));
        if (got < 0 && below(3) > 0) {
            same("wipe()", x.wipe(), m.wipe());
            depth = 0;
        }
        if (below(4) == 0) {
            same("flush()", x.flush(), m.flush());
        }
    }

    private int childPath() {
        if (depth == 0) {
            return 0;
        }
        int path = openPaths[depth - 1];
        if (path == 0) {
            return below(3) == 0 ? 3 : 1;
        }
        return path == 1 ? 2 : below(4);
    }

    private void begin(int path) {
        int chosen = below(40) == 0 ? mostly(4) : path;
        int got = same("open(" + chosen + ")", x.open(chosen), m.open(chosen));
        if (got > 0) {
            openPaths[depth] = chosen;
            depth++;
        }
    }

    private void finish() {
        int got = same("close()", x.close(), m.close());
        depth = Math.max(got, 0);
    }

    /** Fields 0 and 1 are mostly texts, 2 and 3 mostly numbers, so that conflicts are not the rule. */
    private void fill() {
        for (int i = below(3); i > 0; i--) {
            int f = mostly(4);
            boolean text = below(25) == 0 ? f >= 2 : f < 2;
            int many = below(12) == 0 ? 9 : 1 + below(3);
            for (int k = 0; text && k < many; k++) {
                int w = mostly(below(3) == 0 ? 26 : 3);
                same("word(" + f + ", " + w + ")", x.word(f, w), m.word(f, w));
            }
            if (!text) {
                int v = below(10) == 0 ? mostly(1002) - 1 : below(7) - 3;
                same("number(" + f + ", " + v + ")", x.number(f, v) ? 1 : 0, m.number(f, v) ? 1 : 0);
            }
        }
    }

    private void changeIndex() {
        int choice = below(4);
        if (choice == 0) {
            int id = mostly(7);
            same("remove(" + id + ")", x.remove(id) ? 1 : 0, m.remove(id) ? 1 : 0);
        } else if (choice == 1) {
            int first = mostly(3);
            int many = below(10) == 0 ? mostly(8) : 2 + below(2);
            same("merge(" + first + ", " + many + ")", x.merge(first, many), m.merge(first, many));
        } else {
            same("flush()", x.flush(), m.flush());
        }
    }

    private void askAndSearch() {
        if (below(4) > 0) {
            same("clear()", x.clear(), m.clear());
            int toCome = 1;
            for (int i = 0; i < 13 && toCome > 0; i++) {
                int kind = i + toCome >= 9 ? below(5) : below(3) == 0 ? mostly(9) : 5 + below(4);
                toCome = askOne(kind, toCome);
            }
        }
        int many = same("search()", x.search(), m.search());
        for (int k = 0; k <= many; k++) {
            int what = mostly(5);
            same("hit(" + k + ", 0)", x.hit(k, 0), m.hit(k, 0));
            same("hit(" + k + ", 1)", x.hit(k, 1), m.hit(k, 1));
            same("hit(" + k + ", " + what + ")", x.hit(k, what), m.hit(k, what));
        }
        int id = mostly(7);
        same("score(" + id + ")", x.score(id), m.score(id));
    }

    private int askOne(int kind, int toCome) {
        int a = mostly(4);
        int b = below(5);
        if (kind == Checks.HAS) {
            a = below(8) == 0 ? a : below(2);
            b = mostly(3);
        } else if (kind == Checks.FROM || kind == Checks.UPTO) {
            a = below(8) == 0 ? a : 2 + below(2);
            b = below(10) == 0 ? mostly(1002) - 1 : below(7) - 3;
        } else if (kind == Checks.NEST) {
            a = below(8) == 0 ? a : 1 + below(3);
            b = mostly(5);
        }
        int got = same("token(" + kind + ", " + a + ", " + b + ")", x.token(kind, a, b), m.token(kind, a, b));
        return got < 0 ? toCome : got;
    }

    private void readSome() {
        for (int i = 0; i < 6; i++) {
            int segment = mostly(3);
            int number = mostly(16);
            int what = below(2) == 0 ? below(5) : 10 + mostly(4);
            same("object(" + segment + ", " + number + ", " + what + ")", x.object(segment, number, what),
                    m.object(segment, number, what));
            int asked = below(2) == 0 ? mostly(10) : 20 + below(16);
            same("count(" + asked + ")", x.count(asked), m.count(asked));
        }
        int path = mostly(4);
        int f = mostly(4);
        same("type(" + path + ", " + f + ")", x.type(path, f), m.type(path, f));
    }

    private void anything() {
        int a = mostly(4);
        int b = mostly(4);
        int c = mostly(4);
        switch (below(8)) {
            case 0 -> begin(a);
            case 1 -> finish();
            case 2 -> {
                same("wipe()", x.wipe(), m.wipe());
                depth = 0;
            }
            case 3 -> {
                if (same("add(" + a + ")", x.add(a), m.add(a)) >= 0) {
                    depth = 0;
                }
            }
            case 4 -> same("token(" + a + ", " + b + ", " + c + ")", x.token(a, b, c), m.token(a, b, c));
            case 5 -> same("clear()", x.clear(), m.clear());
            case 6 -> same("number(" + a + ", " + b + ")", x.number(a, b) ? 1 : 0, m.number(a, b) ? 1 : 0);
            default -> same("word(" + a + ", " + b + ")", x.word(a, b), m.word(a, b));
        }
    }
}
