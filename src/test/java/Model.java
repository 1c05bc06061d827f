import java.util.ArrayDeque;
import java.util.ArrayList;
import java.util.Arrays;
import java.util.BitSet;
import java.util.Collections;
import java.util.Comparator;
import java.util.List;
import java.util.NoSuchElementException;
import java.util.TreeMap;
import java.util.TreeSet;
import java.util.regex.Matcher;
import java.util.regex.Pattern;

/**
 * The document once more, in the slowest and plainest form: it goes through all sets, and through
 * all ways to make literals true. It shares no code and no way of thinking with the program.
 */
final class Model {
    static final int NONE = -1;

    // ---- Texts

    record Token(char kind, int start, int value) {
    }

    record Span(char sign, int from, int to) {
        boolean met(int code) {
            boolean isTrial = code % 100 != 99;
            if (isTrial && !(sign == '=' && code == from) && !near(from, code) && !near(to, code)) {
                return false;
            }
            return switch (sign) {
                case '*' -> true;
                case '=' -> code == from;
                case '>' -> code >= from;
                case '<' -> code < from;
                case '^' -> code >= from && code / 10000 == from / 10000;
                case '~' -> code >= from && code / 100 == from / 100;
                default -> from <= code && code <= to;
            };
        }

        private static boolean near(int edge, int code) {
            return edge >= 0 && edge % 100 != 99 && edge / 100 == code / 100;
        }
    }

    record Atom(int pack, List<Span> range) {
        boolean metByCode(int code) {
            return range.stream().anyMatch(s -> s.met(code));
        }
    }

    record Need(boolean isHash, List<Atom> atoms) {
    }

    static final String VERSION = "N\\.N(?:!N)?";
    static final String SPAN = "(?:\\*|[=><^~]?" + VERSION + "|" + VERSION + ":" + VERSION + ")";
    static final String RANGE = SPAN + "(?:," + SPAN + ")*";
    static final String ATOM = "L(?:" + RANGE + ")?";
    static final Pattern NEED_TEXT =
            Pattern.compile("L#(?:" + RANGE + ")?|" + ATOM + "(?:\\|" + ATOM + ")*");
    static final Pattern ATOM_TEXT = Pattern.compile(ATOM);
    static final Pattern RANGE_TEXT = Pattern.compile(RANGE);
    static final Pattern ENDS_FROM_TO =
            Pattern.compile("(?:.*[^=><^~N.!:]|)(" + VERSION + "):(" + VERSION + ")");

    static List<Token> tokens(String text, int packs) {
        List<Token> all = new ArrayList<>();
        Matcher m = Pattern.compile("[ \\n]+|[0-9]+|\\.\\.|(?s).").matcher(text);
        while (m.find()) {
            String t = m.group();
            char c = t.charAt(0);
            if (c == ' ' || c == '\n') {
                continue;
            }
            if (c >= '0' && c <= '9') {
                int value = t.length() > 2 ? NONE : Integer.parseInt(t);
                boolean isTrial = !all.isEmpty() && all.get(all.size() - 1).kind == '!';
                boolean isBad = value == NONE || isTrial && (value == 0 || value == 99);
                all.add(new Token(isBad ? '?' : 'N', m.start(), value));
            } else if (t.equals("..")) {
                all.add(new Token(':', m.start(), 0));
            } else if (c >= 'a' && c <= 'l') {
                all.add(new Token(c - 'a' < packs ? 'L' : '?', m.start(), c - 'a'));
            } else {
                all.add(new Token("#|,*=><^~.!".indexOf(c) >= 0 ? c : '?', m.start(), 0));
            }
        }
        return all;
    }

    static String kinds(List<Token> tokens) {
        StringBuilder s = new StringBuilder();
        tokens.forEach(t -> s.append(t.kind));
        return s.toString();
    }

    /** The place of the error of a text, or NONE. */
    static int errorOf(String text, int packs, Pattern grammar) {
        List<Token> all = tokens(text, packs);
        String kinds = kinds(all);
        for (int k = 1; k <= all.size() + 1; k++) {
            Matcher before = ENDS_FROM_TO.matcher(kinds.substring(0, k - 1));
            char next = k <= all.size() ? kinds.charAt(k - 1) : '$';
            if (before.matches() && !(next == '!' && before.group(2).length() == 3)) {
                int from = codeAt(all, before.start(1), before.group(1));
                int to = codeAt(all, before.start(2), before.group(2));
                if (to < from) {
                    return all.get(before.end(1)).start;
                }
            }
            if (k <= all.size()) {
                Matcher m = grammar.matcher(kinds.substring(0, k));
                if (!m.matches() && !m.hitEnd()) {
                    return all.get(k - 1).start;
                }
            }
        }
        return grammar.matcher(kinds).matches() ? NONE : text.length();
    }

    static int codeAt(List<Token> all, int at, String kinds) {
        int trial = kinds.length() > 3 ? all.get(at + 4).value : 99;
        return 10000 * all.get(at).value + 100 * all.get(at + 2).value + trial;
    }

    static List<Span> rangeOf(List<Token> all) {
        List<Span> range = new ArrayList<>();
        Matcher m = Pattern.compile("(\\*)|([=><^~]?)(" + VERSION + ")(?::(" + VERSION + "))?")
                .matcher(kinds(all));
        while (m.find()) {
            if (m.group(1) != null) {
                range.add(new Span('*', NONE, NONE));
            } else {
                int from = codeAt(all, m.start(3), m.group(3));
                boolean isPair = m.group(4) != null;
                int to = isPair ? codeAt(all, m.start(4), m.group(4)) : from;
                char sign = isPair ? ':' : m.group(2).isEmpty() ? '=' : m.group(2).charAt(0);
                range.add(new Span(sign, from, to));
            }
        }
        if (range.isEmpty()) {
            range.add(new Span('*', NONE, NONE));
        }
        return range;
    }

    static Need needOf(String text) {
        List<Token> all = tokens(text, 12);
        String kinds = kinds(all);
        List<Atom> atoms = new ArrayList<>();
        for (int k = 0; k < all.size(); k++) {
            if (kinds.charAt(k) == 'L') {
                int end = kinds.indexOf('|', k) < 0 ? all.size() : kinds.indexOf('|', k);
                atoms.add(new Atom(all.get(k).value, rangeOf(all.subList(k + 1, end))));
            }
        }
        return new Need(kinds.contains("#"), atoms);
    }

    // ---- What is kept

    static final class Version {
        int pack;
        int code;
        int files;
        int size;
        int sum;
        boolean fails;
        List<Need> needs = new ArrayList<>();
        List<Boolean> aheads = new ArrayList<>();
        List<Atom> bans = new ArrayList<>();
        List<int[]> gives = new ArrayList<>();
        Need option;

        Version copy() {
            Version v = new Version();
            v.pack = pack;
            v.code = code;
            v.files = files;
            v.size = size;
            v.sum = sum;
            v.fails = fails;
            v.needs.addAll(needs);
            v.aheads.addAll(aheads);
            v.bans.addAll(bans);
            v.gives.addAll(gives);
            v.option = option;
            return v;
        }

        boolean meets(Atom atom, boolean isOwnOnly) {
            if (pack == atom.pack && atom.metByCode(code)) {
                return true;
            }
            return !isOwnOnly
                    && gives.stream().anyMatch(g -> g[0] == atom.pack && atom.metByCode(g[1]));
        }

        boolean meetsSome(Need need) {
            return need.atoms.stream().anyMatch(a -> meets(a, need.isHash));
        }
    }

    /** A set: the codes of its versions by packages, and the packages with the option on. */
    static final class Picks {
        final TreeMap<Integer, Integer> codes = new TreeMap<>();
        final TreeSet<Integer> on = new TreeSet<>();

        Picks copy() {
            Picks p = new Picks();
            p.codes.putAll(codes);
            p.on.addAll(on);
            return p;
        }

        boolean differs(Picks o, int pack) {
            return code(pack) != o.code(pack) || on.contains(pack) != o.on.contains(pack);
        }

        int code(int pack) {
            return codes.getOrDefault(pack, NONE);
        }

        void take(Picks o, int pack) {
            codes.remove(pack);
            on.remove(pack);
            if (o.codes.containsKey(pack)) {
                codes.put(pack, o.code(pack));
            }
            if (o.on.contains(pack)) {
                on.add(pack);
            }
        }
    }

    static final class Root {
        List<Need> wishes = new ArrayList<>();
        TreeSet<Integer> holds = new TreeSet<>();
        TreeMap<Integer, Atom> pins = new TreeMap<>();
        int quota = 40000;
        Picks installed = new Picks();
        Picks goal = new Picks();
        List<Picks> history = new ArrayList<>();
        int[] failure = {NONE, NONE, NONE};

        Root copy() {
            Root r = new Root();
            r.wishes.addAll(wishes);
            r.holds.addAll(holds);
            r.pins.putAll(pins);
            r.quota = quota;
            r.installed = installed.copy();
            r.goal = goal.copy();
            r.history.addAll(history);
            r.failure = failure.clone();
            return r;
        }
    }

    static final class State {
        List<TreeMap<Integer, Version>> packs = new ArrayList<>();
        List<Root> roots = new ArrayList<>();
        int at;
        List<Picks> locks = new ArrayList<>();
        List<TreeMap<String, Integer>> mirrors = new ArrayList<>();
        List<Integer> wrong = new ArrayList<>();
        int fetched;

        State copy() {
            State s = new State();
            for (TreeMap<Integer, Version> pack : packs) {
                TreeMap<Integer, Version> to = new TreeMap<>();
                pack.forEach((code, v) -> to.put(code, v.copy()));
                s.packs.add(to);
            }
            roots.forEach(r -> s.roots.add(r.copy()));
            s.at = at;
            locks.forEach(l -> s.locks.add(l.copy()));
            mirrors.forEach(m -> s.mirrors.add(new TreeMap<>(m)));
            s.wrong.addAll(wrong);
            s.fetched = fetched;
            return s;
        }
    }

    State s = new State();
    final ArrayDeque<State> past = new ArrayDeque<>();
    String tape = "";
    int errorAt = NONE;

    Model() {
        for (int k = 0; k < 3; k++) {
            s.roots.add(new Root());
            s.locks.add(new Picks());
        }
    }

    Root root() {
        return s.roots.get(s.at);
    }

    void change() {
        past.push(s.copy());
        if (past.size() > 10) {
            past.removeLast();
        }
    }

    static void index(boolean isThere) {
        if (!isThere) {
            throw new IndexOutOfBoundsException();
        }
    }

    static void argument(boolean isRight) {
        if (!isRight) {
            throw new IllegalArgumentException();
        }
    }

    static void state(boolean isRight) {
        if (!isRight) {
            throw new IllegalStateException();
        }
    }

    static void element(boolean isThere) {
        if (!isThere) {
            throw new NoSuchElementException();
        }
    }

    boolean isPack(int pack) {
        return pack >= 0 && pack < s.packs.size();
    }

    Version find(int pack, int code) {
        index(isPack(pack));
        Version v = s.packs.get(pack).get(code);
        index(v != null);
        return v;
    }

    boolean isInstalledSomewhere(Version v) {
        return s.roots.stream().anyMatch(r -> r.installed.code(v.pack) == v.code);
    }

    /** Reads and empties the tape. */
    String read(Pattern grammar) {
        String text = tape;
        tape = "";
        errorAt = errorOf(text, s.packs.size(), grammar);
        argument(errorAt == NONE);
        return text;
    }

    // ---- The calls

    int append(int... words) {
        StringBuilder more = new StringBuilder(tape);
        for (int word : words) {
            for (int shift = 24; shift >= 0; shift -= 8) {
                if ((word >> shift & 255) != 0) {
                    more.append((char) (word >> shift & 255));
                }
            }
        }
        state(more.length() <= 200);
        tape = more.toString();
        return tape.length();
    }

    int clearTape() {
        int length = tape.length();
        tape = "";
        return length;
    }

    int errorPosition() {
        return errorAt;
    }

    int pack() {
        state(s.packs.size() < 12);
        change();
        s.packs.add(new TreeMap<>());
        return s.packs.size() - 1;
    }

    static boolean isCode(int code) {
        return code >= 0 && code <= 999999 && code % 100 >= 1;
    }

    int versionCount() {
        return s.packs.stream().mapToInt(TreeMap::size).sum();
    }

    int version(int pack, int code, int files, int size, int sum) {
        index(isPack(pack));
        argument(isCode(code) && files >= 0 && size >= 0 && size <= 1000);
        TreeMap<Integer, Version> of = s.packs.get(pack);
        state(!of.containsKey(code) && of.size() < 8 && versionCount() < 40);
        change();
        Version v = new Version();
        v.pack = pack;
        v.code = code;
        v.files = files;
        v.size = size;
        v.sum = sum;
        s.packs.get(pack).put(code, v);
        return s.packs.get(pack).size();
    }

    int need(int pack, int code, boolean isAhead) {
        Version v = find(pack, code);
        state(v.needs.size() < 3 && !isInstalledSomewhere(v));
        String text = read(NEED_TEXT);
        change();
        find(pack, code).needs.add(needOf(text));
        find(pack, code).aheads.add(isAhead);
        return find(pack, code).needs.size();
    }

    int ban(int pack, int code) {
        Version v = find(pack, code);
        state(v.bans.size() < 2 && !isInstalledSomewhere(v));
        String text = read(ATOM_TEXT);
        change();
        find(pack, code).bans.add(needOf(text).atoms.get(0));
        return find(pack, code).bans.size();
    }

    int provide(int pack, int code, int other, int otherCode) {
        Version v = find(pack, code);
        index(isPack(other));
        argument(other != pack && isCode(otherCode));
        state(v.gives.size() < 2 && !isInstalledSomewhere(v));
        change();
        find(pack, code).gives.add(new int[] {other, otherCode});
        return find(pack, code).gives.size();
    }

    int option(int pack, int code) {
        Version v = find(pack, code);
        state(v.option == null && !isInstalledSomewhere(v));
        String text = read(NEED_TEXT);
        change();
        find(pack, code).option = needOf(text);
        return (int) s.packs.get(pack).values().stream().filter(w -> w.option != null).count();
    }

    int count(int what) {
        argument(what >= 0 && what <= 7);
        return switch (what) {
            case 0 -> s.packs.size();
            case 1 -> versionCount();
            case 2 -> s.mirrors.size();
            case 3 -> (int) root().wishes.stream().filter(w -> w != null).count();
            case 4 -> clauses().size();
            case 5 -> root().history.size();
            case 6 -> s.fetched;
            default -> past.size();
        };
    }

    int versions(int pack) {
        index(isPack(pack));
        return s.packs.get(pack).size();
    }

    int versionAt(int pack, int place) {
        index(isPack(pack));
        index(place >= 0 && place < s.packs.get(pack).size());
        return new ArrayList<>(s.packs.get(pack).keySet()).get(place);
    }

    int inRange(int pack) {
        index(isPack(pack));
        Atom atom = new Atom(pack, rangeOf(tokens(read(RANGE_TEXT), 12)));
        return (int) s.packs.get(pack).keySet().stream().filter(atom::metByCode).count();
    }

    int root(int which) {
        argument(which >= 0 && which <= 2);
        change();
        int left = s.at;
        s.at = which;
        return left;
    }

    int wish() {
        state(root().wishes.size() < 8);
        String text = read(NEED_TEXT);
        change();
        root().wishes.add(needOf(text));
        return root().wishes.size() - 1;
    }

    int unwish(int wish) {
        index(wish >= 0 && wish < root().wishes.size() && root().wishes.get(wish) != null);
        change();
        root().wishes.set(wish, null);
        return count(3);
    }

    int hold(int pack, boolean isHeld) {
        index(isPack(pack));
        change();
        if (isHeld) {
            root().holds.add(pack);
        } else {
            root().holds.remove(pack);
        }
        return root().holds.size();
    }

    int pin(int pack) {
        index(isPack(pack));
        if (tape.isEmpty()) {
            errorAt = NONE;
            change();
            root().pins.remove(pack);
        } else {
            String text = read(RANGE_TEXT);
            change();
            root().pins.put(pack, new Atom(pack, rangeOf(tokens(text, 12))));
        }
        return root().pins.size();
    }

    int quota(int size) {
        argument(size >= 0 && size <= 40000);
        change();
        int left = root().quota;
        root().quota = size;
        return left;
    }

    // ---- Sets

    Version in(Picks set, int pack) {
        return set.codes.containsKey(pack) ? s.packs.get(pack).get(set.code(pack)) : null;
    }

    List<Version> versionsIn(Picks set) {
        List<Version> all = new ArrayList<>();
        set.codes.forEach((pack, code) -> all.add(s.packs.get(pack).get(code)));
        return all;
    }

    boolean isMet(Need need, Picks set) {
        if (need.isHash) {
            Version v = in(set, need.atoms.get(0).pack);
            return v != null && v.meetsSome(need) && set.on.contains(v.pack);
        }
        return versionsIn(set).stream().anyMatch(v -> v.meetsSome(need));
    }

    boolean isSound(Picks set) {
        for (Version v : versionsIn(set)) {
            if (!v.needs.stream().allMatch(n -> isMet(n, set))) {
                return false;
            }
            for (Version w : versionsIn(set)) {
                if (w != v && v.bans.stream().anyMatch(b -> w.meets(b, false))) {
                    return false;
                }
            }
        }
        for (int pack : set.on) {
            Version v = in(set, pack);
            if (v == null || v.option == null || !isMet(v.option, set)) {
                return false;
            }
        }
        return true;
    }

    boolean fits(Picks set) {
        for (Need wish : root().wishes) {
            if (wish != null && !isMet(wish, set)) {
                return false;
            }
        }
        for (int pack : root().holds) {
            if (set.differs(root().installed, pack)) {
                return false;
            }
        }
        for (var pin : root().pins.entrySet()) {
            Version v = in(set, pin.getKey());
            if (v != null && !pin.getValue().metByCode(v.code)) {
                return false;
            }
        }
        return isSound(set);
    }

    boolean hasOption(int pack) {
        return s.packs.get(pack).values().stream().anyMatch(v -> v.option != null);
    }

    long setCount() {
        long sets = 1;
        for (int p = 0; p < s.packs.size(); p++) {
            sets *= (s.packs.get(p).size() + 1) * (hasOption(p) ? 2 : 1);
        }
        return sets;
    }

    List<Picks> allSets() {
        List<Picks> all = new ArrayList<>(List.of(new Picks()));
        for (int p = 0; p < s.packs.size(); p++) {
            List<Picks> more = new ArrayList<>();
            for (Picks set : all) {
                List<Picks> ways = new ArrayList<>(List.of(set));
                for (int code : s.packs.get(p).keySet()) {
                    Picks with = set.copy();
                    with.codes.put(p, code);
                    ways.add(with);
                }
                more.addAll(ways);
                if (hasOption(p)) {
                    for (Picks way : ways) {
                        Picks with = way.copy();
                        with.on.add(p);
                        more.add(with);
                    }
                }
            }
            all = more;
        }
        return all;
    }

    List<Picks> fitting;
    State fittingOf;

    List<Picks> allFitting() {
        List<Picks> all = new ArrayList<>(allSets());
        all.removeIf(set -> !fits(set));
        return all;
    }

    List<Integer> wishedPacks() {
        List<Integer> packs = new ArrayList<>();
        for (Need wish : root().wishes) {
            if (wish != null) {
                for (Atom atom : wish.atoms) {
                    if (!packs.contains(atom.pack)) {
                        packs.add(atom.pack);
                    }
                }
            }
        }
        return packs;
    }

    /** The one that is ahead comes first. */
    Comparator<Picks> order() {
        List<Integer> wished = wishedPacks();
        List<Integer> turns = new ArrayList<>(wished);
        for (int p = 0; p < s.packs.size(); p++) {
            if (!wished.contains(p)) {
                turns.add(p);
            }
        }
        return (x, y) -> {
            for (int pack : turns) {
                int a = x.code(pack);
                int b = y.code(pack);
                if (a != b) {
                    if (!wished.contains(pack)) {
                        a = a == NONE ? 1000000 : a;
                        b = b == NONE ? 1000000 : b;
                    }
                    return Integer.compare(b, a);
                }
            }
            for (int p = 0; p < s.packs.size(); p++) {
                if (x.on.contains(p) != y.on.contains(p)) {
                    return x.on.contains(p) ? 1 : -1;
                }
            }
            return 0;
        };
    }

    int changesBetween(Picks set, Picks other) {
        int changes = 0;
        for (int p = 0; p < s.packs.size(); p++) {
            changes += set.differs(other, p) ? 1 : 0;
        }
        return changes;
    }

    int solve(boolean isLeast) {
        change();
        List<Picks> all = allFitting();
        if (all.isEmpty()) {
            return NONE;
        }
        Comparator<Picks> order = order();
        if (isLeast) {
            Comparator<Picks> least =
                    Comparator.comparingInt(x -> changesBetween(x, root().installed));
            order = least.thenComparing(order);
        }
        root().goal = Collections.min(all, order);
        return root().goal.codes.size();
    }

    int versionOf(int pack) {
        index(isPack(pack));
        return root().goal.code(pack);
    }

    boolean isOn(int pack) {
        index(isPack(pack));
        return root().goal.on.contains(pack);
    }

    int changes() {
        return changesBetween(root().goal, root().installed);
    }

    int must(int pack, int code) {
        find(pack, code);
        List<Picks> all = allFitting();
        long with = all.stream().filter(x -> x.code(pack) == code).count();
        return all.isEmpty() ? -2 : with == all.size() ? 1 : with == 0 ? -1 : 0;
    }

    int fitting() {
        return setCount() > 5000 ? NONE : allFitting().size();
    }

    /** For each package of a set that is reached: why, and how far. */
    TreeMap<Integer, int[]> reached(Picks set) {
        TreeMap<Integer, int[]> reached = new TreeMap<>();
        for (int w = root().wishes.size() - 1; w >= 0; w--) {
            Need wish = root().wishes.get(w);
            for (Version v : versionsIn(set)) {
                if (wish != null && v.meetsSome(wish)) {
                    reached.put(v.pack, new int[] {100 + w, 1});
                }
            }
        }
        for (int step = 1; step < 14; step++) {
            TreeMap<Integer, int[]> more = new TreeMap<>();
            for (Version v : versionsIn(set)) {
                for (int q : reached.descendingKeySet()) {
                    if (!reached.containsKey(v.pack) && reached.get(q)[1] == step) {
                        Version w = in(set, q);
                        List<Need> needs = new ArrayList<>(w.needs);
                        if (set.on.contains(q) && w.option != null) {
                            needs.add(w.option);
                        }
                        if (needs.stream().anyMatch(v::meetsSome)) {
                            more.put(v.pack, new int[] {q, step + 1});
                        }
                    }
                }
            }
            reached.putAll(more);
        }
        return reached;
    }

    int because(int pack) {
        index(isPack(pack));
        int[] why = reached(root().goal).get(pack);
        return why == null ? NONE : why[0];
    }

    int far(int pack) {
        index(isPack(pack));
        int[] why = reached(root().goal).get(pack);
        return why == null ? NONE : why[1];
    }

    // ---- Clauses; a literal is as literalAt tells it

    record Clause(int kind, int about, int code, TreeSet<Integer> literals) {
    }

    static int not(int literal) {
        return -literal - 1;
    }

    static int literal(Version v) {
        return 1000000 * v.pack + v.code;
    }

    void tell(List<Clause> to, int kind, int about, int code, Need need, int... others) {
        TreeSet<Integer> some = new TreeSet<>();
        TreeSet<Integer> option = new TreeSet<>();
        for (int other : others) {
            some.add(other);
            option.add(other);
        }
        for (TreeMap<Integer, Version> pack : s.packs) {
            for (Version v : pack.values()) {
                if (v.meetsSome(need)) {
                    some.add(literal(v));
                }
            }
        }
        to.add(new Clause(kind, about, code, some));
        if (need.isHash) {
            option.add(1000000 * need.atoms.get(0).pack);
            to.add(new Clause(kind, about, code, option));
        }
    }

    static void tell(List<Clause> to, int kind, int about, int code, Integer... literals) {
        to.add(new Clause(kind, about, code, new TreeSet<>(Arrays.asList(literals))));
    }

    List<Clause> clauses() {
        List<Clause> all = new ArrayList<>();
        for (int w = 0; w < root().wishes.size(); w++) {
            if (root().wishes.get(w) != null) {
                tell(all, 0, w, NONE, root().wishes.get(w));
            }
        }
        for (int p : root().holds) {
            Version v = in(root().installed, p);
            if (v != null) {
                boolean isOn = root().installed.on.contains(p);
                tell(all, 1, p, NONE, literal(v));
                tell(all, 1, p, NONE, isOn ? 1000000 * p : not(1000000 * p));
            } else {
                s.packs.get(p).values().forEach(w -> tell(all, 1, w.pack, NONE, not(literal(w))));
            }
        }
        root().pins.forEach((p, pin) -> s.packs.get(p).values().forEach(v -> {
            if (!pin.metByCode(v.code)) {
                tell(all, 2, p, NONE, not(literal(v)));
            }
        }));
        for (int p = 0; p < s.packs.size(); p++) {
            tellPack(all, p);
        }
        return all;
    }

    void tellPack(List<Clause> all, int p) {
        List<Version> own = new ArrayList<>(s.packs.get(p).values());
        for (Version v : own) {
            v.needs.forEach(n -> tell(all, 3, p, v.code, n, not(literal(v))));
            for (Atom ban : v.bans) {
                for (TreeMap<Integer, Version> pack : s.packs) {
                    for (Version w : pack.values()) {
                        if (w != v && w.meets(ban, false)) {
                            tell(all, 4, p, v.code, not(literal(v)), not(literal(w)));
                        }
                    }
                }
            }
            if (v.option != null) {
                tell(all, 5, p, v.code, v.option, not(literal(v)), not(1000000 * p));
            }
        }
        TreeSet<Integer> having = new TreeSet<>(List.of(not(1000000 * p)));
        own.stream().filter(v -> v.option != null).forEach(v -> having.add(literal(v)));
        all.add(new Clause(6, p, NONE, having));
        for (int i = 0; i < own.size(); i++) {
            for (int j = i + 1; j < own.size(); j++) {
                tell(all, 7, p, own.get(i).code, not(literal(own.get(i))), not(literal(own.get(j))));
            }
        }
    }

    /** How many versions and options there are; core() goes through 2 to the power of it ways. */
    int variables() {
        return versionCount() + s.packs.size();
    }

    /** The ways to make versions and options true (their numbers) in which a clause holds. */
    BitSet ways(Clause clause, List<Integer> variables) {
        BitSet ways = new BitSet();
        for (int literal : clause.literals) {
            int bit = variables.indexOf(literal < 0 ? not(literal) : literal);
            for (int way = 0; way < 1 << variables.size(); way++) {
                if ((way >> bit & 1) == (literal < 0 ? 0 : 1)) {
                    ways.set(way);
                }
            }
        }
        return ways;
    }

    List<Integer> coreNumbers() {
        List<Integer> variables = new ArrayList<>();
        for (int p = 0; p < s.packs.size(); p++) {
            s.packs.get(p).values().forEach(v -> variables.add(literal(v)));
            variables.add(1000000 * p);
        }
        List<Clause> told = clauses();
        BitSet every = new BitSet();
        every.set(0, 1 << variables.size());
        List<BitSet> upTo = new ArrayList<>();
        List<BitSet> ways = new ArrayList<>();
        BitSet so = every;
        for (Clause clause : told) {
            upTo.add(so);
            so = (BitSet) so.clone();
            ways.add(ways(clause, variables));
            so.and(ways.get(ways.size() - 1));
        }
        List<Integer> core = new ArrayList<>();
        if (!so.isEmpty()) {
            return core;
        }
        BitSet kept = every;
        for (int c = told.size() - 1; c >= 0; c--) {
            BitSet left = (BitSet) kept.clone();
            left.and(upTo.get(c));
            if (!left.isEmpty()) {
                core.add(0, c);
                kept = (BitSet) kept.clone();
                kept.and(ways.get(c));
            }
        }
        return core;
    }

    int core() {
        return coreNumbers().size();
    }

    int coreAt(int place, int what) {
        List<Integer> core = coreNumbers();
        index(place >= 0 && place < core.size());
        argument(what >= 0 && what <= 4);
        Clause clause = clauses().get(core.get(place));
        return switch (what) {
            case 0 -> core.get(place);
            case 1 -> clause.kind;
            case 2 -> clause.about;
            case 3 -> clause.code;
            default -> clause.literals.size();
        };
    }

    record Row(TreeSet<Integer> literals, int earlier, int later) {
    }

    static Row joined(List<Row> rows, int i, int j) {
        TreeSet<Integer> both = new TreeSet<>(rows.get(i).literals);
        both.addAll(rows.get(j).literals);
        int clashes = 0;
        for (int literal : rows.get(i).literals) {
            if (rows.get(j).literals.contains(not(literal))) {
                clashes++;
                both.remove(literal);
                both.remove(not(literal));
            }
        }
        return clashes == 1 ? new Row(both, i, j) : null;
    }

    /** The rows of the proof, or null if there is none. */
    List<Row> rows() {
        List<Row> rows = new ArrayList<>();
        List<Clause> told = clauses();
        for (int c : coreNumbers()) {
            rows.add(new Row(told.get(c).literals, NONE, NONE));
        }
        if (rows.isEmpty()) {
            return rows;
        }
        while (rows.stream().noneMatch(r -> r.literals.isEmpty())) {
            Row best = null;
            for (int j = 0; j < rows.size(); j++) {
                for (int i = 0; i < j; i++) {
                    Row row = joined(rows, i, j);
                    if (row != null && (best == null || row.literals.size() < best.literals.size())
                            && rows.stream().noneMatch(r -> row.literals.containsAll(r.literals))) {
                        best = row;
                    }
                }
            }
            if (best == null || rows.size() == 200) {
                return null;
            }
            rows.add(best);
        }
        return pruned(rows);
    }

    static List<Row> pruned(List<Row> rows) {
        TreeSet<Integer> needed = new TreeSet<>(List.of(rows.size() - 1));
        for (int r = rows.size() - 1; r >= 0; r--) {
            if (needed.contains(r) && rows.get(r).later != NONE) {
                needed.add(rows.get(r).earlier);
                needed.add(rows.get(r).later);
            }
        }
        List<Integer> old = new ArrayList<>(needed);
        List<Row> kept = new ArrayList<>();
        for (int r : old) {
            Row row = rows.get(r);
            kept.add(new Row(row.literals, old.indexOf(row.earlier), old.indexOf(row.later)));
        }
        return kept;
    }

    int proof() {
        List<Row> rows = rows();
        return rows == null ? NONE : rows.size();
    }

    int proofAt(int row, int what) {
        List<Row> rows = rows();
        index(rows != null && row >= 0 && row < rows.size());
        argument(what >= 0 && what <= 2);
        Row it = rows.get(row);
        return what == 0 ? it.earlier : what == 1 ? it.later : it.literals.size();
    }

    int literalAt(int row, int place) {
        List<Row> rows = rows();
        index(rows != null && row >= 0 && row < rows.size());
        List<Integer> literals = new ArrayList<>(rows.get(row).literals);
        index(place >= 0 && place < literals.size());
        // An option stands behind the versions of its package.
        literals.sort(Comparator.comparingInt(x -> {
            int positive = x < 0 ? not(x) : x;
            return positive % 1000000 == 0 ? positive + 999999 : positive - 1;
        }));
        return literals.get(place);
    }

    // ---- Locks

    int lock(int lock) {
        argument(lock >= 0 && lock <= 2);
        change();
        s.locks.set(lock, root().goal.copy());
        return s.locks.get(lock).codes.size();
    }

    int lockDiffers(int lock, int other) {
        argument(lock >= 0 && lock <= 2 && other >= 0 && other <= 2);
        return changesBetween(s.locks.get(lock), s.locks.get(other));
    }

    int mergeLocks(int lock, int other) {
        argument(lock >= 0 && lock <= 2 && other >= 0 && other <= 2);
        change();
        Picks goal = new Picks();
        for (Picks from : List.of(s.locks.get(lock), s.locks.get(other))) {
            from.codes.forEach((pack, code) -> goal.codes.merge(pack, code, Math::max));
        }
        for (Picks from : List.of(s.locks.get(lock), s.locks.get(other))) {
            for (int pack : from.on) {
                if (from.code(pack) == goal.code(pack)) {
                    goal.on.add(pack);
                }
            }
        }
        root().goal = goal;
        return fits(goal) ? 1 : 0;
    }

    int takeLock(int lock) {
        argument(lock >= 0 && lock <= 2);
        change();
        root().goal = s.locks.get(lock).copy();
        return fits(root().goal) ? 1 : 0;
    }

    // ---- Mirrors

    int mirror() {
        state(s.mirrors.size() < 3);
        change();
        s.mirrors.add(new TreeMap<>());
        s.wrong.add(0);
        return s.mirrors.size() - 1;
    }

    int offer(int mirror, int pack, int code, int sum) {
        index(mirror >= 0 && mirror < s.mirrors.size());
        find(pack, code);
        change();
        s.mirrors.get(mirror).put(pack + ":" + code, sum);
        return s.mirrors.get(mirror).size();
    }

    int sumWrong(int mirror) {
        index(mirror >= 0 && mirror < s.mirrors.size());
        return s.wrong.get(mirror);
    }

    /** The mirror that gives a version, or NONE; counts wrong offers. */
    int fetch(Version v, int fetched, List<Integer> wrong) {
        int n = s.mirrors.size();
        for (int k = 0; k < n; k++) {
            int m = (fetched + k) % n;
            Integer sum = s.mirrors.get(m).get(v.pack + ":" + v.code);
            if (sum != null && sum == v.sum) {
                return m;
            }
            if (sum != null) {
                wrong.set(m, wrong.get(m) + 1);
            }
        }
        return NONE;
    }

    boolean comes(int pack) {
        return root().goal.code(pack) != NONE
                && root().goal.code(pack) != root().installed.code(pack);
    }

    List<Integer> coming() {
        List<Integer> coming = new ArrayList<>(scriptOrder(root().goal));
        coming.removeIf(p -> !comes(p));
        return coming;
    }

    int fetches() {
        return scriptOrder(root().goal) == null ? NONE : coming().size();
    }

    int fetchAt(int place, boolean isMirror) {
        element(scriptOrder(root().goal) != null);
        List<Integer> coming = coming();
        index(place >= 0 && place < coming.size());
        int fetched = s.fetched;
        int mirror = NONE;
        for (int k = 0; k <= place; k++) {
            mirror = fetch(in(root().goal, coming.get(k)), fetched, new ArrayList<>(s.wrong));
            fetched += mirror == NONE ? 0 : 1;
        }
        return isMirror ? mirror : coming.get(place);
    }

    // ---- Scripts, steps, installs

    boolean isAhead(Picks set, int p, int q) {
        Version v = in(set, q);
        for (int k = 0; k < v.needs.size(); k++) {
            if (p != q && v.aheads.get(k) && in(set, p).meetsSome(v.needs.get(k))) {
                return true;
            }
        }
        return false;
    }

    /** The order of scripts, or null if there is none. */
    List<Integer> scriptOrder(Picks set) {
        List<Integer> order = new ArrayList<>();
        TreeSet<Integer> left = new TreeSet<>(set.codes.keySet());
        while (!left.isEmpty()) {
            Integer next = null;
            for (int q : left.descendingSet()) {
                if (left.stream().noneMatch(p -> isAhead(set, p, q))) {
                    next = q;
                }
            }
            if (next == null) {
                return null;
            }
            order.add(next);
            left.remove(next);
        }
        return order;
    }

    /** All rings that start with their least package, by walking everywhere. */
    void rings(Picks set, List<Integer> walk, List<List<Integer>> found) {
        int last = walk.get(walk.size() - 1);
        if (walk.size() > 1 && isAhead(set, last, walk.get(0))) {
            found.add(new ArrayList<>(walk));
        }
        for (int p : set.codes.keySet()) {
            if (p > walk.get(0) && !walk.contains(p) && isAhead(set, last, p)) {
                walk.add(p);
                rings(set, walk, found);
                walk.remove(walk.size() - 1);
            }
        }
    }

    List<Integer> ring(Picks set) {
        List<List<Integer>> found = new ArrayList<>();
        for (int p : set.codes.keySet()) {
            rings(set, new ArrayList<>(List.of(p)), found);
        }
        Comparator<List<Integer>> order = Comparator.comparingInt(r -> r.get(0));
        order = order.thenComparingInt(List::size);
        order = order.thenComparing((x, y) -> {
            for (int k = 0; k < x.size(); k++) {
                if (!x.get(k).equals(y.get(k))) {
                    return Integer.compare(x.get(k), y.get(k));
                }
            }
            return 0;
        });
        return Collections.min(found, order);
    }

    List<List<Integer>> steps() {
        Picks there = root().installed.copy();
        TreeSet<Integer> left = new TreeSet<>();
        for (int p = 0; p < s.packs.size(); p++) {
            if (there.differs(root().goal, p)) {
                left.add(p);
            }
        }
        List<List<Integer>> steps = new ArrayList<>();
        while (!left.isEmpty()) {
            List<Integer> step = new ArrayList<>(left);
            for (int p : left) {
                Picks next = there.copy();
                next.take(root().goal, p);
                if (isSound(next)) {
                    step = List.of(p);
                    break;
                }
            }
            step.forEach(p -> there.take(root().goal, p));
            left.removeAll(step);
            steps.add(step);
        }
        return steps;
    }

    int plan() {
        state(isSound(root().goal));
        return steps().size();
    }

    int planAt(int step) {
        state(isSound(root().goal));
        List<List<Integer>> steps = steps();
        index(step >= 0 && step < steps.size());
        return steps.get(step).stream().mapToInt(p -> 1 << p).sum();
    }

    int install() {
        state(isSound(root().goal));
        change();
        root().failure = new int[] {NONE, NONE, NONE};
        List<Integer> order = scriptOrder(root().goal);
        if (order == null) {
            return failed(0, ring(root().goal).get(0), NONE);
        }
        if (!s.mirrors.isEmpty()) {
            for (int p : coming()) {
                if (fetch(in(root().goal, p), s.fetched, s.wrong) == NONE) {
                    return failed(1, p, NONE);
                }
                s.fetched++;
            }
        }
        List<List<Integer>> steps = steps();
        TreeMap<Integer, Version> there = new TreeMap<>();
        versionsIn(root().installed).forEach(v -> there.put(v.pack, v));
        for (int k = 0; k < steps.size(); k++) {
            if (!isStepDone(there, steps.get(k), order, k)) {
                return NONE;
            }
        }
        root().installed = root().goal.copy();
        root().history.add(root().installed.copy());
        return steps.size();
    }

    boolean isStepDone(TreeMap<Integer, Version> there, List<Integer> step, List<Integer> order,
            int number) {
        List<Integer> coming = new ArrayList<>(order);
        coming.removeIf(p -> !step.contains(p) || !comes(p));
        for (int p : step) {
            if (root().goal.code(p) != root().installed.code(p)) {
                there.remove(p);
            }
        }
        for (int p : coming) {
            Version v = in(root().goal, p);
            if (there.values().stream().anyMatch(w -> (w.files & v.files) != 0)) {
                failed(2, p, number);
                return false;
            }
            there.put(p, v);
        }
        if (there.values().stream().mapToInt(v -> v.size).sum() > root().quota) {
            failed(3, Collections.max(step), number);
            return false;
        }
        for (int p : coming) {
            if (there.get(p).fails) {
                failed(4, p, number);
                return false;
            }
        }
        return true;
    }

    int failed(int reason, int pack, int step) {
        root().failure = new int[] {reason, pack, step};
        return NONE;
    }

    int failure(int what) {
        argument(what >= 0 && what <= 2);
        return root().failure[what];
    }

    int value(Picks set, int pack) {
        return set.code(pack) + (set.on.contains(pack) ? 1000000 : 0);
    }

    int installed(int pack) {
        index(isPack(pack));
        return value(root().installed, pack);
    }

    int owner(int file) {
        argument(file >= 0 && file <= 30);
        for (Version v : versionsIn(root().installed)) {
            if ((v.files & 1 << file) != 0) {
                return v.pack;
            }
        }
        return NONE;
    }

    int clashes() {
        int clashes = 0;
        for (int f = 0; f < 31; f++) {
            int file = f;
            long owners = versionsIn(root().goal).stream()
                    .filter(v -> (v.files & 1 << file) != 0).count();
            clashes += owners > 1 ? 1 : 0;
        }
        return clashes;
    }

    boolean fails(int pack, int code, boolean fails) {
        boolean before = find(pack, code).fails;
        change();
        find(pack, code).fails = fails;
        return before;
    }

    int scripts() {
        List<Integer> order = scriptOrder(root().goal);
        return order == null ? -ring(root().goal).size() : order.size();
    }

    int scriptAt(int place) {
        List<Integer> order = scriptOrder(root().goal);
        List<Integer> row = order == null ? ring(root().goal) : order;
        index(place >= 0 && place < row.size());
        return row.get(place);
    }

    // ---- What is installed

    int orphans() {
        TreeMap<Integer, int[]> reached = reached(root().installed);
        return root().installed.codes.keySet().stream().filter(p -> !reached.containsKey(p))
                .mapToInt(p -> 1 << p).sum();
    }

    int without(int pack) {
        index(isPack(pack));
        if (in(root().installed, pack) == null) {
            return 0;
        }
        Picks left = root().installed.copy();
        left.take(new Picks(), pack);
        int broken = 0;
        boolean isMore = true;
        while (isMore) {
            isMore = false;
            for (Version v : versionsIn(left)) {
                List<Need> needs = new ArrayList<>(v.needs);
                if (left.on.contains(v.pack)) {
                    needs.add(v.option);
                }
                if (!needs.stream().allMatch(n -> isMet(n, left))) {
                    left.take(new Picks(), v.pack);
                    broken += 1 << v.pack;
                    isMore = true;
                    break;
                }
            }
        }
        return broken;
    }

    boolean isKept(int entry) {
        int entries = root().history.size();
        return entry >= 0 && entry < entries && entry >= entries - 20;
    }

    int backTo(int entry) {
        element(entry == NONE || isKept(entry));
        change();
        root().goal = entry == NONE ? new Picks() : root().history.get(entry).copy();
        return changes();
    }

    int then(int entry, int pack) {
        element(isKept(entry));
        index(isPack(pack));
        return root().history.get(entry).code(pack);
    }

    int size() {
        return versionsIn(root().installed).stream().mapToInt(v -> v.size).sum();
    }

    int undo() {
        if (past.isEmpty()) {
            return NONE;
        }
        s = past.pop();
        return past.size();
    }

    int checksum() {
        int sum = 17;
        for (int p = 0; p < s.packs.size(); p++) {
            sum = 31 * sum + value(root().goal, p);
            sum = 31 * sum + value(root().installed, p);
        }
        return sum;
    }

    boolean isSound() {
        return s.roots.stream().allMatch(r -> isSound(r.installed));
    }

    int errors() {
        return 0;
    }

    double meanSize() {
        int packs = root().installed.codes.size();
        return packs == 0 ? 0.0 : (double) size() / (double) packs;
    }

    float share() {
        return root().quota == 0 ? 0.0f : (float) size() / (float) root().quota;
    }
}
