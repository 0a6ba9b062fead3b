/**
 * Search in documents that are trees. The document's promises are kept here one method each; the
 * classes inside hold one of its terms each (draft, mapping, row of documents, snapshot, query, hits).
 */
public final class BlockSearch {
    public static final int REFUSED = -1;
    public static final int NONE = -2;
    public static final int FULL = -3;
    public static final int CONFLICT = -4;

    private static final int PATHS = 4;
    private static final int FIELDS = 4;
    private static final int IDS = 20;
    private static final int WORDS = 26;
    private static final int MOST_NUMBER = 1000;
    private static final int MOST_WORDS = 8;
    private static final int MOST_IN_DRAFT = 10;
    private static final int MOST_IN_BUFFER = 30;
    private static final int MOST_SEGMENTS = 6;
    private static final int MOST_TOKENS = 12;

    private static final int ROOT = 0;
    /** The root's parent is no path, so that no path is ever taken for it. */
    private static final int[] PARENT = {-1, 0, 1, 0};

    private static final int NOTHING = 0;
    private static final int NUMBER = 1;
    private static final int TEXT = 2;

    private static final int HAS = 0;
    private static final int FROM = 1;
    private static final int UPTO = 2;
    private static final int SOME = 3;
    private static final int ANY = 4;
    private static final int BOTH = 5;
    private static final int EITHER = 6;
    private static final int NOT = 7;
    private static final int NEST = 8;

    private static final int BY_NOTHING = 0;
    private static final int BY_SUM = 1;
    private static final int BY_MEAN = 2;
    private static final int BY_LEAST = 3;
    private static final int BY_GREATEST = 4;

    /** Scores are never below 0, so this one says that a token does not hold. */
    private static final int MISS = -1;

    private static final int HIT_ID = 0;
    private static final int HIT_SCORE = 1;
    private static final int HIT_SEGMENT = 2;
    private static final int HIT_ROOT = 3;
    private static final int HIT_OBJECTS = 4;
    private static final int HIT_FACTS = 5;

    private static final int LAST_PLACE_FACT = 4;
    private static final int FIRST_FIELD_FACT = 10;
    private static final int TEXT_FACT = 2000;

    private static final int SEGMENT_OBJECTS = 20;
    private static final int SEGMENT_LIVE = 30;

    private final Draft draft = new Draft();
    private final Mapping mapping = new Mapping();
    private final DocumentRow buffer = new DocumentRow(MOST_IN_BUFFER);
    private final DocumentRow[] segments = new DocumentRow[MOST_SEGMENTS];
    private final Snapshot snapshot = new Snapshot();
    private final Query query = new Query();
    private final Scorer scorer = new Scorer();
    private final Hits hits = new Hits();
    private int segmentCount = 0;
    private int addedCount = 0;
    private int leftOutCount = 0;

    public BlockSearch() {
    }

    public int open(int path) {
        if (!isPath(path)) {
            return REFUSED;
        }
        if (!draft.takesPath(path)) {
            return NONE;
        }
        if (draft.openedCount >= MOST_IN_DRAFT) {
            return FULL;
        }
        draft.begin(path);
        return draft.openedCount;
    }

    public boolean number(int f, int v) {
        if (!isField(f) || !isNumber(v) || draft.current == null) {
            return false;
        }
        draft.current.putNumber(f, v);
        return true;
    }

    public int word(int f, int w) {
        if (!isField(f) || !isWord(w)) {
            return REFUSED;
        }
        Node node = draft.current;
        if (node == null) {
            return NONE;
        }
        if (node.types[f] == NUMBER) {
            return CONFLICT;
        }
        if (node.values[f] >= MOST_WORDS) {
            return FULL;
        }
        node.putWord(f, w);
        return node.values[f];
    }

    public int close() {
        if (draft.current == null) {
            return NONE;
        }
        draft.end();
        return draft.openedCount - draft.closedCount;
    }

    public int wipe() {
        int had = draft.openedCount;
        draft.drop();
        return had;
    }

    public int add(int id) {
        if (!isId(id)) {
            return REFUSED;
        }
        if (!draft.isComplete()) {
            return NONE;
        }
        if (!mapping.fits(draft)) {
            return CONFLICT;
        }
        if (buffer.objects + draft.closedCount > MOST_IN_BUFFER) {
            return FULL;
        }
        deleteLive(id);
        mapping.learn(draft);
        buffer.append(new Document(id, draft));
        draft.drop();
        addedCount++;
        return buffer.objects;
    }

    public boolean remove(int id) {
        return deleteLive(id);
    }

    public int flush() {
        int live = buffer.liveCount();
        if (live > 0 && segmentCount >= MOST_SEGMENTS) {
            return FULL;
        }
        int objects = 0;
        if (live > 0) {
            DocumentRow segment = new DocumentRow(live);
            segment.appendLive(buffer);
            segments[segmentCount] = segment;
            segmentCount++;
            objects = segment.objects;
        }
        buffer.drop();
        return objects;
    }

    public int merge(int first, int many) {
        if (many < 2 || many > MOST_SEGMENTS || first < 0 || first > segmentCount - many) {
            return REFUSED;
        }
        int live = 0;
        int deleted = 0;
        for (int i = first; i < first + many; i++) {
            live += segments[i].liveCount();
            deleted += segments[i].deletedCount();
        }
        int made = 0;
        if (live > 0) {
            segments[first] = mergedRow(first, many, live);
            made = 1;
        }
        moveDown(first + many, many - made);
        leftOutCount += deleted;
        return segmentCount;
    }

    public int refresh() {
        snapshot.begin();
        for (int i = 0; i < segmentCount; i++) {
            snapshot.takeIn(i, segments[i]);
        }
        return snapshot.liveCount();
    }

    public int token(int kind, int a, int b) {
        if (!isToken(kind, a, b)) {
            return REFUSED;
        }
        if (query.isComplete() || (kind == NEST && PARENT[a] != query.nextPath())) {
            return NONE;
        }
        if (query.size >= MOST_TOKENS) {
            return FULL;
        }
        query.append(kind, a, b);
        return query.toCome;
    }

    public int clear() {
        int had = query.size;
        query.drop();
        return had;
    }

    public int search() {
        if (!query.isComplete() || !snapshot.taken) {
            return NONE;
        }
        scorer.prepare(query, snapshot);
        hits.drop();
        for (int i = 0; i < snapshot.size; i++) {
            if (snapshot.live[i]) {
                int points = scorer.pointsOf(query, snapshot.documents[i]);
                if (points != MISS) {
                    hits.insert(snapshot, i, points);
                }
            }
        }
        return hits.size;
    }

    public int hit(int k, int what) {
        if (what < 0 || what >= HIT_FACTS) {
            return REFUSED;
        }
        if (k < 0 || k >= hits.size) {
            return NONE;
        }
        return hits.rows[k][what];
    }

    public int score(int id) {
        if (!query.isComplete() || !snapshot.taken) {
            return NONE;
        }
        Document document = snapshot.liveWith(id);
        if (document == null) {
            return NONE;
        }
        scorer.prepare(query, snapshot);
        int points = scorer.pointsOf(query, document);
        return points == MISS ? NONE : points;
    }

    public int object(int segment, int number, int what) {
        boolean field = what >= FIRST_FIELD_FACT && what < FIRST_FIELD_FACT + FIELDS;
        if (!field && (what < 0 || what > LAST_PLACE_FACT)) {
            return REFUSED;
        }
        if (segment < 0 || segment >= segmentCount || number < 0) {
            return NONE;
        }
        return segments[segment].factOf(number, what);
    }

    public int type(int path, int f) {
        if (!isPath(path) || !isField(f)) {
            return REFUSED;
        }
        return mapping.types[path][f];
    }

    public int count(int what) {
        switch (what) {
            case 0:
                return segmentCount;
            case 1:
                return draft.openedCount;
            case 2:
                return buffer.objects;
            case 3:
                return buffer.liveCount() + liveInSegments();
            case 4:
                return deletedInSegments();
            case 5:
                return addedCount;
            case 6:
                return mapping.setCount;
            case 7:
                return snapshot.size;
            case 8:
                return hits.size;
            case 9:
                return leftOutCount;
            default:
                return segmentFact(what);
        }
    }

    private int segmentFact(int what) {
        if (what >= SEGMENT_OBJECTS && what < SEGMENT_OBJECTS + MOST_SEGMENTS) {
            int k = what - SEGMENT_OBJECTS;
            return k < segmentCount ? segments[k].objects : NONE;
        }
        if (what >= SEGMENT_LIVE && what < SEGMENT_LIVE + MOST_SEGMENTS) {
            int k = what - SEGMENT_LIVE;
            return k < segmentCount ? segments[k].liveCount() : NONE;
        }
        return REFUSED;
    }

    private int liveInSegments() {
        int live = 0;
        for (int i = 0; i < segmentCount; i++) {
            live += segments[i].liveCount();
        }
        return live;
    }

    private int deletedInSegments() {
        int deleted = 0;
        for (int i = 0; i < segmentCount; i++) {
            deleted += segments[i].deletedCount();
        }
        return deleted;
    }

    private boolean deleteLive(int id) {
        Document document = buffer.liveWith(id);
        for (int i = 0; i < segmentCount && document == null; i++) {
            document = segments[i].liveWith(id);
        }
        if (document == null) {
            return false;
        }
        document.live = false;
        return true;
    }

    private DocumentRow mergedRow(int first, int many, int live) {
        DocumentRow merged = new DocumentRow(live);
        for (int i = first; i < first + many; i++) {
            merged.appendLive(segments[i]);
        }
        return merged;
    }

    private void moveDown(int from, int by) {
        for (int i = from; i < segmentCount; i++) {
            segments[i - by] = segments[i];
        }
        segmentCount -= by;
    }

    private static boolean isPath(int path) {
        return path >= 0 && path < PATHS;
    }

    private static boolean isField(int f) {
        return f >= 0 && f < FIELDS;
    }

    private static boolean isNumber(int v) {
        return v >= -MOST_NUMBER && v <= MOST_NUMBER;
    }

    private static boolean isWord(int w) {
        return w >= 0 && w < WORDS;
    }

    private static boolean isId(int id) {
        return id >= 0 && id < IDS;
    }

    private static boolean isToken(int kind, int a, int b) {
        switch (kind) {
            case HAS:
                return isField(a) && isWord(b);
            case FROM:
            case UPTO:
                return isField(a) && isNumber(b);
            case SOME:
                return isField(a);
            case ANY:
            case BOTH:
            case EITHER:
            case NOT:
                return true;
            case NEST:
                return isPath(a) && b >= BY_NOTHING && b <= BY_GREATEST;
            default:
                return false;
        }
    }

    /** An object of the draft or of a document; it is never changed once its document is added. */
    private static final class Node {
        final int path;
        final Node parent;
        /** The least number, within the document, of it and all below it. */
        final int least;
        /** Its own number within the document, known when it is closed. */
        int place = 0;
        final int[] types = new int[FIELDS];
        /** By field: its number, or how many words its text has. */
        final int[] values = new int[FIELDS];
        final int[] words = new int[FIELDS * MOST_WORDS];

        Node(int path, Node parent, int least) {
            this.path = path;
            this.parent = parent;
            this.least = least;
        }

        void putNumber(int f, int v) {
            types[f] = NUMBER;
            values[f] = v;
        }

        void putWord(int f, int w) {
            types[f] = TEXT;
            words[f * MOST_WORDS + values[f]] = w;
            values[f]++;
        }

        int timesOf(int f, int w) {
            if (types[f] != TEXT) {
                return 0;
            }
            int times = 0;
            for (int i = 0; i < values[f]; i++) {
                if (words[f * MOST_WORDS + i] == w) {
                    times++;
                }
            }
            return times;
        }

        boolean hasNumberWithin(int f, int least, int most) {
            return types[f] == NUMBER && values[f] >= least && values[f] <= most;
        }

        int fieldFact(int f) {
            if (types[f] == NOTHING) {
                return NONE;
            }
            return types[f] == NUMBER ? values[f] : TEXT_FACT + values[f];
        }
    }

    /**
     * The document that is laid down. A segment numbers an object behind all that is below it, which
     * is the order of closing, so the closed ones are kept in that order.
     */
    private static final class Draft {
        final Node[] closed = new Node[MOST_IN_DRAFT];
        int closedCount = 0;
        int openedCount = 0;
        Node current = null;

        boolean isComplete() {
            return openedCount > 0 && current == null;
        }

        boolean takesPath(int path) {
            if (current == null) {
                return openedCount == 0 && path == ROOT;
            }
            return PARENT[path] == current.path;
        }

        void begin(int path) {
            current = new Node(path, current, closedCount);
            openedCount++;
        }

        void end() {
            current.place = closedCount;
            closed[closedCount] = current;
            closedCount++;
            current = current.parent;
        }

        void drop() {
            closedCount = 0;
            openedCount = 0;
            current = null;
        }
    }

    /** The type of each path and field, as far as it is known. */
    private static final class Mapping {
        final int[][] types = new int[PATHS][FIELDS];
        int setCount = 0;
        /** What the types would be; a row of its own, so that a conflict leaves no trace. */
        private final int[][] trial = new int[PATHS][FIELDS];

        boolean fits(Draft draft) {
            for (int path = 0; path < PATHS; path++) {
                System.arraycopy(types[path], 0, trial[path], 0, FIELDS);
            }
            for (int i = 0; i < draft.closedCount; i++) {
                if (!fitsTrial(draft.closed[i])) {
                    return false;
                }
            }
            return true;
        }

        private boolean fitsTrial(Node node) {
            int[] row = trial[node.path];
            for (int f = 0; f < FIELDS; f++) {
                int type = node.types[f];
                if (type != NOTHING && row[f] != NOTHING && row[f] != type) {
                    return false;
                }
                if (type != NOTHING) {
                    row[f] = type;
                }
            }
            return true;
        }

        void learn(Draft draft) {
            for (int i = 0; i < draft.closedCount; i++) {
                learnFrom(draft.closed[i]);
            }
        }

        private void learnFrom(Node node) {
            int[] row = types[node.path];
            for (int f = 0; f < FIELDS; f++) {
                if (row[f] == NOTHING && node.types[f] != NOTHING) {
                    row[f] = node.types[f];
                    setCount++;
                }
            }
        }
    }

    /** A document that was added: its objects by their numbers, the root last. */
    private static final class Document {
        final int id;
        final Node[] nodes;
        boolean live = true;

        Document(int id, Draft draft) {
            this.id = id;
            this.nodes = new Node[draft.closedCount];
            for (int i = 0; i < nodes.length; i++) {
                nodes[i] = draft.closed[i];
            }
        }

        int factOf(int place, int base, int what) {
            Node node = nodes[place];
            switch (what) {
                case 0:
                    return node.path;
                case 1:
                    return node.parent == null ? NONE : base + node.parent.place;
                case 2:
                    return id;
                case 3:
                    return live ? 1 : 0;
                case 4:
                    return base + node.least;
                default:
                    return node.fieldFact(what - FIRST_FIELD_FACT);
            }
        }
    }

    /** Documents in order: the buffer, or a segment. */
    private static final class DocumentRow {
        final Document[] documents;
        int size = 0;
        int objects = 0;

        DocumentRow(int most) {
            documents = new Document[most];
        }

        void append(Document document) {
            if (size < documents.length) {
                documents[size] = document;
                size++;
                objects += document.nodes.length;
            }
        }

        void appendLive(DocumentRow other) {
            for (int i = 0; i < other.size; i++) {
                if (other.documents[i].live) {
                    append(other.documents[i]);
                }
            }
        }

        void drop() {
            size = 0;
            objects = 0;
        }

        int liveCount() {
            int live = 0;
            for (int i = 0; i < size; i++) {
                if (documents[i].live) {
                    live++;
                }
            }
            return live;
        }

        int deletedCount() {
            return size - liveCount();
        }

        Document liveWith(int id) {
            for (int i = 0; i < size; i++) {
                if (documents[i].live && documents[i].id == id) {
                    return documents[i];
                }
            }
            return null;
        }

        int factOf(int number, int what) {
            int base = 0;
            for (int i = 0; i < size; i++) {
                int next = base + documents[i].nodes.length;
                if (number < next) {
                    return documents[i].factOf(number - base, base, what);
                }
                base = next;
            }
            return NONE;
        }
    }

    /**
     * What the segments were. Documents are shared with them, as they do not change; whether they
     * are live does, so that is copied. A segment begins with live documents alone, whose ids
     * differ, so it never has more documents than there are ids.
     */
    private static final class Snapshot {
        private static final int MOST = MOST_SEGMENTS * IDS;
        boolean taken = false;
        int size = 0;
        final Document[] documents = new Document[MOST];
        final boolean[] live = new boolean[MOST];
        final int[] segments = new int[MOST];
        final int[] roots = new int[MOST];

        void begin() {
            taken = true;
            size = 0;
        }

        void takeIn(int segment, DocumentRow row) {
            int objects = 0;
            for (int i = 0; i < row.size && size < MOST; i++) {
                Document document = row.documents[i];
                objects += document.nodes.length;
                documents[size] = document;
                live[size] = document.live;
                segments[size] = segment;
                roots[size] = objects - 1;
                size++;
            }
        }

        int liveCount() {
            int count = 0;
            for (int i = 0; i < size; i++) {
                if (live[i]) {
                    count++;
                }
            }
            return count;
        }

        Document liveWith(int id) {
            for (int i = 0; i < size; i++) {
                if (live[i] && documents[i].id == id) {
                    return documents[i];
                }
            }
            return null;
        }
    }

    /** Tokens, each before its parts, and the paths at which the parts still to come will stand. */
    private static final class Query {
        final int[] kinds = new int[MOST_TOKENS];
        final int[] firsts = new int[MOST_TOKENS];
        final int[] seconds = new int[MOST_TOKENS];
        final int[] paths = new int[MOST_TOKENS];
        int size = 0;
        /** The first token is itself a part to come; each token ends one and brings at most two. */
        private final int[] awaited = new int[MOST_TOKENS + 1];
        int toCome = 1;

        boolean isComplete() {
            return toCome == 0;
        }

        int nextPath() {
            return toCome > 0 ? awaited[toCome - 1] : ROOT;
        }

        void append(int kind, int a, int b) {
            int path = nextPath();
            kinds[size] = kind;
            firsts[size] = a;
            seconds[size] = b;
            paths[size] = path;
            size++;
            toCome--;
            int parts = partsOf(kind);
            for (int i = 0; i < parts; i++) {
                awaited[toCome] = kind == NEST ? a : path;
                toCome++;
            }
        }

        void drop() {
            size = 0;
            awaited[0] = ROOT;
            toCome = 1;
        }

        /** Where the token stands that follows the one at a place and all its parts. */
        int behind(int place) {
            int next = place;
            int due = 1;
            while (due > 0 && next < size) {
                due += partsOf(kinds[next]) - 1;
                next++;
            }
            return next;
        }

        private static int partsOf(int kind) {
            switch (kind) {
                case BOTH:
                case EITHER:
                    return 2;
                case NOT:
                case NEST:
                    return 1;
                default:
                    return 0;
            }
        }
    }

    /**
     * Works out a complete query for one document at a time. Parts stand behind their token, so the
     * table is filled from the last token to the first, without recursion.
     */
    private static final class Scorer {
        private final int[] weights = new int[MOST_TOKENS];
        private final int[] otherParts = new int[MOST_TOKENS];
        /** By token and object of the document: the score, or MISS. */
        private final int[][] table = new int[MOST_TOKENS][MOST_IN_DRAFT];

        void prepare(Query query, Snapshot snapshot) {
            for (int t = 0; t < query.size; t++) {
                int kind = query.kinds[t];
                if (kind == HAS) {
                    weights[t] = weightOf(query, t, snapshot);
                }
                if (kind == BOTH || kind == EITHER) {
                    otherParts[t] = query.behind(t + 1);
                }
            }
        }

        private static int weightOf(Query query, int t, Snapshot snapshot) {
            int all = 0;
            int holding = 0;
            for (int i = 0; i < snapshot.size; i++) {
                for (Node node : snapshot.documents[i].nodes) {
                    if (node.path == query.paths[t]) {
                        all++;
                        if (node.timesOf(query.firsts[t], query.seconds[t]) > 0) {
                            holding++;
                        }
                    }
                }
            }
            return holding == 0 ? 0 : 1 + all / holding;
        }

        int pointsOf(Query query, Document document) {
            Node[] nodes = document.nodes;
            for (int t = query.size - 1; t >= 0; t--) {
                for (int n = 0; n < nodes.length; n++) {
                    if (nodes[n].path == query.paths[t]) {
                        table[t][n] = pointsAt(query, t, nodes, n);
                    }
                }
            }
            return table[0][nodes.length - 1];
        }

        private int pointsAt(Query query, int t, Node[] nodes, int n) {
            int a = query.firsts[t];
            int b = query.seconds[t];
            switch (query.kinds[t]) {
                case HAS:
                    return weighed(nodes[n].timesOf(a, b), weights[t]);
                case FROM:
                    return oneIf(nodes[n].hasNumberWithin(a, b, MOST_NUMBER));
                case UPTO:
                    return oneIf(nodes[n].hasNumberWithin(a, -MOST_NUMBER, b));
                case SOME:
                    return oneIf(nodes[n].types[a] != NOTHING);
                case ANY:
                    return 1;
                case BOTH:
                    return sumOfBoth(table[t + 1][n], table[otherParts[t]][n]);
                case EITHER:
                    return sumOfEither(table[t + 1][n], table[otherParts[t]][n]);
                case NOT:
                    return table[t + 1][n] == MISS ? 0 : MISS;
                default:
                    return nested(query, t, nodes, n);
            }
        }

        private static int weighed(int times, int weight) {
            return times > 0 ? times * weight : MISS;
        }

        private static int oneIf(boolean holds) {
            return holds ? 1 : MISS;
        }

        private static int sumOfBoth(int left, int right) {
            return left == MISS || right == MISS ? MISS : left + right;
        }

        private static int sumOfEither(int left, int right) {
            if (left == MISS) {
                return right;
            }
            return right == MISS ? left : left + right;
        }

        private int nested(Query query, int t, Node[] nodes, int n) {
            int holding = 0;
            int sum = 0;
            int least = 0;
            int greatest = 0;
            for (int c = nodes[n].least; c < n; c++) {
                boolean child = nodes[c].parent == nodes[n] && nodes[c].path == query.firsts[t];
                int points = child ? table[t + 1][c] : MISS;
                if (points != MISS) {
                    least = holding == 0 ? points : Math.min(least, points);
                    greatest = Math.max(greatest, points);
                    sum += points;
                    holding++;
                }
            }
            if (holding == 0) {
                return MISS;
            }
            switch (query.seconds[t]) {
                case BY_SUM:
                    return sum;
                case BY_MEAN:
                    return sum / holding;
                case BY_LEAST:
                    return least;
                case BY_GREATEST:
                    return greatest;
                default:
                    return 0;
            }
        }
    }

    /** What the last search found. The rows are made once; they are moved, and written over. */
    private static final class Hits {
        /** Live documents have different ids, so there are never more hits than ids. */
        final int[][] rows = new int[IDS][HIT_FACTS];
        int size = 0;

        void drop() {
            size = 0;
        }

        /** Documents come in the order of segments and numbers, so equal scores keep it. */
        void insert(Snapshot from, int at, int points) {
            if (size >= rows.length) {
                return;
            }
            int[] row = rows[size];
            int place = size;
            while (place > 0 && rows[place - 1][HIT_SCORE] < points) {
                rows[place] = rows[place - 1];
                place--;
            }
            rows[place] = row;
            row[HIT_ID] = from.documents[at].id;
            row[HIT_SCORE] = points;
            row[HIT_SEGMENT] = from.segments[at];
            row[HIT_ROOT] = from.roots[at];
            row[HIT_OBJECTS] = from.documents[at].nodes.length;
            size++;
        }
    }
}
