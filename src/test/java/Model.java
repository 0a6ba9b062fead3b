import java.util.ArrayList;
import java.util.Arrays;
import java.util.Comparator;
import java.util.HashMap;
import java.util.List;
import java.util.Map;
import java.util.function.Predicate;

/**
 * The document read literally, with trees, lists and recursion and no thought of room or rules:
 * what ModelTest holds the program against.
 */
final class Model {
    private static final int REFUSED = -1;
    private static final int NONE = -2;
    private static final int FULL = -3;
    private static final int CONFLICT = -4;

    private static final class Obj {
        final int path;
        final Obj parent;
        boolean closed = false;
        /** By field: an Integer, or a list of words. */
        final Map<Integer, Object> fields = new HashMap<>();
        final List<Obj> children = new ArrayList<>();

        Obj(int path, Obj parent) {
            this.path = path;
            this.parent = parent;
        }

        /** It and all below it, an object behind all that is below it. */
        List<Obj> all() {
            List<Obj> row = new ArrayList<>();
            for (Obj child : children) {
                row.addAll(child.all());
            }
            row.add(this);
            return row;
        }
    }

    private record Doc(int id, Obj root, boolean[] gone) {
        boolean live() {
            return !gone[0];
        }
    }

    private record Seen(Doc doc, boolean live, int segment, int root) {
    }

    private record Token(int kind, int a, int b, int path, List<Token> parts) {
        int wanted() {
            return kind == 5 || kind == 6 ? 2 : kind == 7 || kind == 8 ? 1 : 0;
        }

        int missing() {
            int sum = wanted() - parts.size();
            for (Token part : parts) {
                sum += part.missing();
            }
            return sum;
        }

        int size() {
            int sum = 1;
            for (Token part : parts) {
                sum += part.size();
            }
            return sum;
        }

        /** The token that takes the next part, or null. */
        Token taker() {
            for (Token part : parts) {
                if (part.missing() > 0) {
                    return part.taker();
                }
            }
            return parts.size() < wanted() ? this : null;
        }
    }

    private Obj draft = null;
    private final Map<List<Integer>, Integer> mapping = new HashMap<>();
    private List<Doc> buffer = new ArrayList<>();
    private final List<List<Doc>> segments = new ArrayList<>();
    private List<Seen> snapshot = null;
    private Token query = null;
    private List<int[]> hits = new ArrayList<>();
    private int added = 0;
    private int leftOut = 0;

    private static int parentOf(int path) {
        return path == 0 ? -7 : path == 2 ? 1 : 0;
    }

    private static boolean within(int v, int least, int most) {
        return least <= v && v <= most;
    }

    private Obj openOne() {
        if (draft == null || draft.closed) {
            return null;
        }
        Obj at = draft;
        while (!at.children.isEmpty() && !at.children.get(at.children.size() - 1).closed) {
            at = at.children.get(at.children.size() - 1);
        }
        return at;
    }

    int open(int path) {
        if (!within(path, 0, 3)) {
            return REFUSED;
        }
        if (draft == null) {
            if (path != 0) {
                return NONE;
            }
            draft = new Obj(0, null);
            return 1;
        }
        Obj at = openOne();
        if (at == null || parentOf(path) != at.path) {
            return NONE;
        }
        if (draft.all().size() == 10) {
            return FULL;
        }
        at.children.add(new Obj(path, at));
        return draft.all().size();
    }

    boolean number(int f, int v) {
        if (!within(f, 0, 3) || !within(v, -1000, 1000) || openOne() == null) {
            return false;
        }
        openOne().fields.put(f, v);
        return true;
    }

    int word(int f, int w) {
        if (!within(f, 0, 3) || !within(w, 0, 25)) {
            return REFUSED;
        }
        Obj at = openOne();
        if (at == null) {
            return NONE;
        }
        if (at.fields.get(f) instanceof Integer) {
            return CONFLICT;
        }
        List<Integer> words = words(at, f);
        if (words.size() == 8) {
            return FULL;
        }
        List<Integer> more = new ArrayList<>(words);
        more.add(w);
        at.fields.put(f, more);
        return more.size();
    }

    private static List<Integer> words(Obj at, int f) {
        List<Integer> words = new ArrayList<>();
        if (at.fields.get(f) instanceof List<?> list) {
            for (Object word : list) {
                words.add((Integer) word);
            }
        }
        return words;
    }

    int close() {
        if (openOne() == null) {
            return NONE;
        }
        openOne().closed = true;
        return (int) draft.all().stream().filter(o -> !o.closed).count();
    }

    int wipe() {
        int had = draft == null ? 0 : draft.all().size();
        draft = null;
        return had;
    }

    int add(int id) {
        if (!within(id, 0, 19)) {
            return REFUSED;
        }
        if (draft == null || !draft.closed) {
            return NONE;
        }
        Map<List<Integer>, Integer> types = new HashMap<>(mapping);
        for (Obj o : draft.all()) {
            for (Map.Entry<Integer, Object> field : o.fields.entrySet()) {
                int type = field.getValue() instanceof Integer ? 1 : 2;
                Integer other = types.put(Arrays.asList(o.path, field.getKey()), type);
                if (other != null && other != type) {
                    return CONFLICT;
                }
            }
        }
        if (objects(buffer).size() + draft.all().size() > 30) {
            return FULL;
        }
        remove(id);
        mapping.putAll(types);
        buffer.add(new Doc(id, draft, new boolean[1]));
        draft = null;
        added++;
        return objects(buffer).size();
    }

    private static List<Obj> objects(List<Doc> docs) {
        List<Obj> row = new ArrayList<>();
        docs.forEach(doc -> row.addAll(doc.root.all()));
        return row;
    }

    private List<Doc> inSegments() {
        List<Doc> row = new ArrayList<>();
        segments.forEach(row::addAll);
        return row;
    }

    private List<Doc> everywhere() {
        List<Doc> row = inSegments();
        row.addAll(buffer);
        return row;
    }

    private static List<Doc> only(List<Doc> docs, Predicate<Doc> which) {
        return new ArrayList<>(docs.stream().filter(which).toList());
    }

    boolean remove(int id) {
        List<Doc> found = only(everywhere(), doc -> doc.live() && doc.id == id);
        found.forEach(doc -> doc.gone[0] = true);
        return !found.isEmpty();
    }

    int flush() {
        List<Doc> live = only(buffer, Doc::live);
        if (!live.isEmpty()) {
            if (segments.size() == 6) {
                return FULL;
            }
            segments.add(live);
        }
        buffer = new ArrayList<>();
        return objects(live).size();
    }

    int merge(int first, int many) {
        if (!within(many, 2, 6) || first < 0 || (long) first + many > segments.size()) {
            return REFUSED;
        }
        List<Doc> all = new ArrayList<>();
        for (int i = 0; i < many; i++) {
            all.addAll(segments.remove(first));
        }
        List<Doc> live = only(all, Doc::live);
        leftOut += all.size() - live.size();
        if (!live.isEmpty()) {
            segments.add(first, live);
        }
        return segments.size();
    }

    int refresh() {
        snapshot = new ArrayList<>();
        for (int segment = 0; segment < segments.size(); segment++) {
            List<Obj> row = objects(segments.get(segment));
            for (Doc doc : segments.get(segment)) {
                snapshot.add(new Seen(doc, doc.live(), segment, row.indexOf(doc.root)));
            }
        }
        return (int) snapshot.stream().filter(Seen::live).count();
    }

    int token(int kind, int a, int b) {
        boolean field = within(a, 0, 3);
        boolean good = switch (kind) {
            case 0 -> field && within(b, 0, 25);
            case 1, 2 -> field && within(b, -1000, 1000);
            case 3 -> field;
            case 4, 5, 6, 7 -> true;
            case 8 -> field && within(b, 0, 4);
            default -> false;
        };
        if (!good) {
            return REFUSED;
        }
        if (complete()) {
            return NONE;
        }
        Token taker = query == null ? null : query.taker();
        int path = taker == null ? 0 : taker.kind == 8 ? taker.a : taker.path;
        if (kind == 8 && parentOf(a) != path) {
            return NONE;
        }
        if (query != null && query.size() == 12) {
            return FULL;
        }
        Token token = new Token(kind, a, b, path, new ArrayList<>());
        if (taker == null) {
            query = token;
        } else {
            taker.parts.add(token);
        }
        return query.missing();
    }

    private boolean complete() {
        return query != null && query.missing() == 0;
    }

    int clear() {
        int had = query == null ? 0 : query.size();
        query = null;
        return had;
    }

    private boolean holds(Token t, Obj o) {
        return switch (t.kind) {
            case 0 -> words(o, t.a).contains(t.b);
            case 1 -> o.fields.get(t.a) instanceof Integer v && v >= t.b;
            case 2 -> o.fields.get(t.a) instanceof Integer v && v <= t.b;
            case 3 -> o.fields.containsKey(t.a);
            case 4 -> true;
            case 5 -> holds(t.parts.get(0), o) && holds(t.parts.get(1), o);
            case 6 -> holds(t.parts.get(0), o) || holds(t.parts.get(1), o);
            case 7 -> !holds(t.parts.get(0), o);
            default -> !holders(t, o).isEmpty();
        };
    }

    private List<Obj> holders(Token nest, Obj o) {
        return o.children.stream().filter(c -> c.path == nest.a && holds(nest.parts.get(0), c)).toList();
    }

    private int scoreOf(Token t, Obj o) {
        return switch (t.kind) {
            case 0 -> {
                int times = (int) words(o, t.a).stream().filter(w -> w == t.b).count();
                List<Obj> all = new ArrayList<>();
                snapshot.forEach(seen -> all.addAll(seen.doc.root.all()));
                all.removeIf(other -> other.path != t.path);
                int holding = (int) all.stream().filter(other -> holds(t, other)).count();
                yield times * (1 + all.size() / holding);
            }
            case 5, 6 -> t.parts.stream().filter(part -> holds(part, o)).mapToInt(part -> scoreOf(part, o)).sum();
            case 7 -> 0;
            case 8 -> {
                int[] scores = holders(t, o).stream().mapToInt(c -> scoreOf(t.parts.get(0), c)).sorted().toArray();
                int sum = Arrays.stream(scores).sum();
                yield switch (t.b) {
                    case 1 -> sum;
                    case 2 -> sum / scores.length;
                    case 3 -> scores[0];
                    case 4 -> scores[scores.length - 1];
                    default -> 0;
                };
            }
            default -> 1;
        };
    }

    int search() {
        if (!complete() || snapshot == null) {
            return NONE;
        }
        hits = new ArrayList<>();
        for (Seen seen : snapshot) {
            Obj root = seen.doc.root;
            if (seen.live && holds(query, root)) {
                hits.add(new int[] {seen.doc.id, scoreOf(query, root), seen.segment, seen.root, root.all().size()});
            }
        }
        hits.sort(Comparator.comparingInt(hit -> -hit[1]));
        return hits.size();
    }

    int hit(int k, int what) {
        if (!within(what, 0, 4)) {
            return REFUSED;
        }
        return within(k, 0, hits.size() - 1) ? hits.get(k)[what] : NONE;
    }

    int score(int id) {
        if (!complete() || snapshot == null) {
            return NONE;
        }
        for (Seen seen : snapshot) {
            if (seen.live && seen.doc.id == id) {
                return holds(query, seen.doc.root) ? scoreOf(query, seen.doc.root) : NONE;
            }
        }
        return NONE;
    }

    int object(int segment, int number, int what) {
        if (!within(what, 0, 4) && !within(what, 10, 13)) {
            return REFUSED;
        }
        if (!within(segment, 0, segments.size() - 1)) {
            return NONE;
        }
        List<Obj> row = objects(segments.get(segment));
        if (!within(number, 0, row.size() - 1)) {
            return NONE;
        }
        Obj at = row.get(number);
        Doc doc = only(segments.get(segment), d -> d.root.all().contains(at)).get(0);
        return switch (what) {
            case 0 -> at.path;
            case 1 -> at.parent == null ? NONE : row.indexOf(at.parent);
            case 2 -> doc.id;
            case 3 -> doc.live() ? 1 : 0;
            case 4 -> at.all().stream().mapToInt(row::indexOf).min().getAsInt();
            default -> {
                Object value = at.fields.get(what - 10);
                yield value == null ? NONE : value instanceof Integer v ? v : 2000 + words(at, what - 10).size();
            }
        };
    }

    int type(int path, int f) {
        if (!within(path, 0, 3) || !within(f, 0, 3)) {
            return REFUSED;
        }
        return mapping.getOrDefault(Arrays.asList(path, f), 0);
    }

    int count(int what) {
        return switch (what) {
            case 0 -> segments.size();
            case 1 -> draft == null ? 0 : draft.all().size();
            case 2 -> objects(buffer).size();
            case 3 -> only(everywhere(), Doc::live).size();
            case 4 -> only(inSegments(), doc -> !doc.live()).size();
            case 5 -> added;
            case 6 -> mapping.size();
            case 7 -> snapshot == null ? 0 : snapshot.size();
            case 8 -> hits.size();
            case 9 -> leftOut;
            case 20, 21, 22, 23, 24, 25 ->
                what - 20 < segments.size() ? objects(segments.get(what - 20)).size() : NONE;
            case 30, 31, 32, 33, 34, 35 ->
                what - 30 < segments.size() ? only(segments.get(what - 30), Doc::live).size() : NONE;
            default -> REFUSED;
        };
    }
}
