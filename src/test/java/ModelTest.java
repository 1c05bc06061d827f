import java.util.NoSuchElementException;
import java.util.Random;
import java.util.TreeMap;

/**
 * Makes random calls of a Kitwarden and of the Model and compares all answers and exceptions. The
 * seeds are fixed, so a run that fails is the same run again. Arguments: runs, first seed.
 */
public final class ModelTest {
    private interface Call {
        Object on() throws RuntimeException;
    }

    private final Random random;
    private final Kitwarden kit = new Kitwarden();
    private final Model model = new Model();
    private final int mostPacks;
    private final int mostVariables;
    private final int mostSets;
    private final int mostAsked;
    private final boolean hasMirrors;
    private final boolean hasSwitches;
    private final StringBuilder log = new StringBuilder();
    private int calls = 0;
    private static int wrong = 0;
    private static final TreeMap<String, Integer> SEEN = new TreeMap<>();

    private ModelTest(long seed) {
        random = new Random(seed);
        boolean isForCores = seed % 2 == 0;
        mostPacks = isForCores ? 2 + random.nextInt(3) : 3 + random.nextInt(10);
        mostVariables = isForCores ? 11 : 52;
        mostSets = isForCores ? 5000 : seed % 20 == 1 ? 12000 : 1500;
        mostAsked = isForCores ? 3 : 0;
        hasMirrors = in(3);
        hasSwitches = in(2);
    }

    public static void main(String[] args) {
        int runs = args.length > 0 ? Integer.parseInt(args[0]) : 400;
        long first = args.length > 1 ? Long.parseLong(args[1]) : 1;
        for (long seed = first; seed < first + runs && wrong < 5; seed++) {
            ModelTest test = new ModelTest(seed);
            try {
                test.run();
            } catch (RuntimeException e) {
                wrong++;
                System.out.println("seed " + seed + ": " + e + "\n" + test.log);
                e.printStackTrace(System.out);
            }
        }
        if (args.length > 2) {
            SEEN.forEach((what, count) -> System.out.println(what + " " + count));
        }
        System.out.println(wrong == 0 ? runs + " random runs agree with the model" : "wrong");
        System.exit(wrong == 0 ? 0 : 1);
    }

    private static String answer(Call call) {
        try {
            return String.valueOf(call.on());
        } catch (IllegalStateException | IllegalArgumentException | NoSuchElementException e) {
            return e.getClass().getSimpleName();
        } catch (IndexOutOfBoundsException e) {
            // The machine's own subclasses are no answer.
            return e.getClass().getSimpleName();
        }
    }

    /** Makes a call on both; returns the answer. */
    private String same(String what, Call mine, Call due) {
        if (calls >= 512) {
            return "";
        }
        calls++;
        log.append(what);
        String got = answer(mine);
        String want = answer(due);
        log.append(" = ").append(got).append('\n');
        String name = what.substring(0, what.indexOf('('));
        boolean isPlain = want.matches("[A-Z].*|-.|true|false") || what.equals("failure(0)");
        SEEN.merge(name + " " + (isPlain ? want : "..."), 1, Integer::sum);
        if (!got.equals(want)) {
            throw new IllegalStateException(what + " answered " + got + ", due is " + want);
        }
        return got;
    }

    private int below(int bound) {
        return random.nextInt(bound);
    }

    private boolean in(int chances) {
        return below(chances) == 0;
    }

    /** A number below bound, now and then one just out of range. */
    private int some(int bound) {
        return in(40) ? (in(2) ? -1 : bound) : in(500) ? (in(2) ? Integer.MIN_VALUE
                : Integer.MAX_VALUE) : bound <= 0 ? 0 : below(bound);
    }

    private int somePack() {
        return some(model.s.packs.size());
    }

    private int newCode() {
        if (in(60)) {
            return new int[] {-1, 0, 100, 1000000, 999999, 1, 98, 99, Integer.MIN_VALUE}[below(9)];
        }
        int trial = in(7) ? new int[] {5, 7, 98, 1}[below(4)] : 99;
        return 10000 * (1 + below(2)) + 100 * below(2) + trial;
    }

    private int someCode(int pack) {
        if (pack >= 0 && pack < model.s.packs.size() && !in(30)) {
            Object[] codes = model.s.packs.get(pack).keySet().toArray();
            if (codes.length > 0) {
                return (Integer) codes[below(codes.length)];
            }
        }
        return newCode();
    }

    // ---- Texts

    private String blank() {
        return in(12) ? (in(2) ? " " : "\n") : "";
    }

    private String versionText() {
        int code = in(3) ? newCode() : someCode(below(Math.max(1, model.s.packs.size())));
        code = code < 0 || code > 999999 ? 10099 : code;
        String minor = in(20) ? "0" + code / 100 % 100 % 10 : "" + code / 100 % 100;
        String trial = code % 100 == 99 ? "" : blank() + "!" + blank() + code % 100;
        return code / 10000 + blank() + "." + blank() + minor + trial;
    }

    private String spanText() {
        int kind = below(12);
        if (kind == 0) {
            return "*";
        }
        if (kind < 9) {
            String[] signs = {"", "=", ">", "<", "^", "~", ">", "<"};
            return signs[kind - 1] + blank() + versionText();
        }
        String from = versionText();
        String to = versionText();
        boolean isTurned = !in(10) && from.compareTo(to) > 0;
        return (isTurned ? to : from) + blank() + ".." + blank() + (isTurned ? from : to);
    }

    private String rangeText() {
        StringBuilder text = new StringBuilder(spanText());
        while (in(4)) {
            text.append(blank()).append(',').append(blank()).append(spanText());
        }
        return text.toString();
    }

    private String letter() {
        return "" + (char) ('a' + (in(60) ? below(13) : below(Math.max(1, model.s.packs.size()))));
    }

    private String atomText() {
        return letter() + blank() + (in(3) ? rangeText() : "");
    }

    private String needText() {
        if (in(hasSwitches ? 3 : 12)) {
            return letter() + blank() + "#" + blank() + (in(2) ? rangeText() : "");
        }
        StringBuilder text = new StringBuilder(atomText());
        while (in(3)) {
            text.append(blank()).append('|').append(blank()).append(atomText());
        }
        return text.toString();
    }

    private String broken(String text) {
        StringBuilder b = new StringBuilder(text);
        String signs = "#|,*=><^~.!09 abz\u0001\u00ff5\n";
        for (int k = 0; k <= below(2); k++) {
            int at = below(b.length() + 1);
            char sign = signs.charAt(below(signs.length()));
            switch (below(3)) {
                case 0 -> b.insert(at, sign);
                case 1 -> b.setLength(at);
                default -> {
                    if (at < b.length()) {
                        b.setCharAt(at, sign);
                    }
                }
            }
        }
        return b.toString();
    }

    private void tape(String text) {
        String all = in(25) ? broken(text) : text;
        int at = 0;
        while (at < all.length()) {
            int[] words = new int[5];
            for (int k = 0; k < 20 && at < all.length(); k++) {
                if (!in(30)) {
                    words[k / 4] |= all.charAt(at) << 24 - 8 * (k % 4);
                    at++;
                }
            }
            append(words[0], words[1], words[2], words[3], words[4]);
        }
    }

    private void append(int a, int b, int c, int d, int e) {
        same("append(" + a + ", " + b + ", " + c + ", " + d + ", " + e + ")",
                () -> kit.append(a, b, c, d, e), () -> model.append(a, b, c, d, e));
    }

    // ---- Runs

    private void run() {
        int packs = 1 + below(mostPacks);
        for (int k = 0; k < packs; k++) {
            pack();
        }
        for (int k = 0; k < 2 * packs; k++) {
            version(k % packs);
        }
        for (int k = below(4); k >= 0; k--) {
            tape(in(2) ? letter() : needText());
            same("wish()", kit::wish, model::wish);
        }
        int told = 40 + below(80);
        int wide = 3 + below(9);
        while (calls < 500) {
            if (calls < told ? !in(10) : in(wide)) {
                tell();
            } else if (in(3)) {
                act();
            } else {
                ask();
            }
        }
    }

    private void pack() {
        if (model.s.packs.size() < mostPacks || model.s.packs.size() == 12) {
            same("pack()", kit::pack, model::pack);
        }
    }

    private boolean mayGrow(int factor) {
        return model.setCount() * factor <= mostSets && model.variables() < mostVariables;
    }

    private void tell() {
        int p = somePack();
        int c = someCode(p);
        switch (below(14)) {
            case 0, 1, 2, 3, 4 -> version(p);
            case 5, 6, 7 -> {
                tape(needText());
                boolean ahead = in(2);
                same("need(" + p + ", " + c + ", " + ahead + ")", () -> kit.need(p, c, ahead),
                        () -> model.need(p, c, ahead));
            }
            case 8 -> {
                tape(in(20) ? needText() : atomText());
                same("ban(" + p + ", " + c + ")", () -> kit.ban(p, c), () -> model.ban(p, c));
            }
            case 9 -> {
                int q = somePack();
                int d = newCode();
                same("provide(" + p + ", " + c + ", " + q + ", " + d + ")",
                        () -> kit.provide(p, c, q, d), () -> model.provide(p, c, q, d));
            }
            case 10 -> {
                for (int k = 0; k < (hasSwitches ? 3 : 1) && mayGrow(2); k++) {
                    tape(needText());
                    same("option(" + p + ", " + c + ")", () -> kit.option(p, c),
                            () -> model.option(p, c));
                }
            }
            case 11 -> {
                tape(in(2) ? atomText() : needText());
                same("wish()", kit::wish, model::wish);
            }
            case 12 -> {
                if (in(2)) {
                    pack();
                }
                boolean on = in(3);
                same("fails(" + p + ", " + c + ", " + on + ")", () -> kit.fails(p, c, on),
                        () -> model.fails(p, c, on));
            }
            default -> {
                if (hasMirrors && in(4)) {
                    same("mirror()", kit::mirror, model::mirror);
                    for (int k = 0; k < 12; k++) {
                        int q = somePack();
                        offer(q, someCode(q));
                    }
                }
                offer(p, c);
            }
        }
    }

    private void version(int p) {
        if (mayGrow(2)) {
            int code = newCode();
            int files = in(3) ? 1 << below(5) | 1 << below(31) : in(40) ? -1 : 0;
            int size = in(60) ? new int[] {-1, 1001, 1000}[below(3)] : below(20);
            int sum = below(3);
            same("version(" + p + ", " + code + ", " + files + ", " + size + ", " + sum + ")",
                    () -> kit.version(p, code, files & ~(1 << 31), size, sum),
                    () -> model.version(p, code, files & ~(1 << 31), size, sum));
        }
    }

    private void offer(int p, int c) {
        int m = some(model.s.mirrors.size());
        Model.Version v = p >= 0 && p < model.s.packs.size() ? model.s.packs.get(p).get(c) : null;
        int sum = v != null && !in(4) ? v.sum : below(3);
        same("offer(" + m + ", " + p + ", " + c + ", " + sum + ")",
                () -> kit.offer(m, p, c, sum), () -> model.offer(m, p, c, sum));
    }

    private void act() {
        int p = somePack();
        int c = someCode(p);
        int l = some(3);
        int k = some(3);
        switch (below(16)) {
            case 0, 1, 2 -> solve();
            case 3, 4, 5 -> {
                solve();
                same("install()", kit::install, model::install);
                same("failure(0)", () -> kit.failure(0), () -> model.failure(0));
            }
            case 6 -> {
                int w = some(Math.max(1, model.root().wishes.size()));
                same("unwish(" + w + ")", () -> kit.unwish(w), () -> model.unwish(w));
            }
            case 7 -> {
                boolean on = in(2);
                same("hold(" + p + ", " + on + ")", () -> kit.hold(p, on), () -> model.hold(p, on));
            }
            case 8 -> {
                tape(in(3) ? "" : rangeText());
                same("pin(" + p + ")", () -> kit.pin(p), () -> model.pin(p));
            }
            case 9 -> {
                int q = in(4) ? some(40000) : in(9) ? 40001 : in(2) ? below(60) : 40000;
                same("quota(" + q + ")", () -> kit.quota(q), () -> model.quota(q));
            }
            case 10 -> {
                boolean on = in(3);
                same("fails(" + p + ", " + c + ", " + on + ")", () -> kit.fails(p, c, on),
                        () -> model.fails(p, c, on));
            }
            case 11 -> same("lock(" + l + ")", () -> kit.lock(l), () -> model.lock(l));
            case 12 -> {
                same("mergeLocks(" + l + ", " + k + ")", () -> kit.mergeLocks(l, k),
                        () -> model.mergeLocks(l, k));
                same("takeLock(" + k + ")", () -> kit.takeLock(k), () -> model.takeLock(k));
            }
            case 13 -> {
                int e = in(6) ? -1 : some(model.root().history.size());
                same("backTo(" + e + ")", () -> kit.backTo(e), () -> model.backTo(e));
                same("install()", kit::install, model::install);
            }
            case 14 -> {
                int r = in(3) ? l : 0;
                same("root(" + r + ")", () -> kit.root(r), () -> model.root(r));
            }
            default -> {
                for (int u = 0; u <= below(in(4) ? 12 : 3); u++) {
                    same("undo()", kit::undo, model::undo);
                }
                if (in(8)) {
                    same("clearTape()", kit::clearTape, model::clearTape);
                }
                if (in(8)) {
                    append(random.nextInt(), random.nextInt(), below(256) << 16, 0, 97);
                }
            }
        }
    }

    private void solve() {
        boolean least = in(3);
        String got = same("solve(" + least + ")", () -> kit.solve(least),
                () -> model.solve(least));
        if (got.equals("-1") && in(2)) {
            int w = below(Math.max(1, model.root().wishes.size()));
            same("unwish(" + w + ")", () -> kit.unwish(w), () -> model.unwish(w));
            int p = somePack();
            same("hold(" + p + ", false)", () -> kit.hold(p, false), () -> model.hold(p, false));
            same("pin(" + p + ")", () -> kit.pin(p), () -> model.pin(p));
        }
    }

    private void ask() {
        switch (below(8)) {
            case 0 -> askGoal();
            case 1 -> askSets();
            case 2 -> askScripts();
            case 3 -> askInstalled();
            case 4 -> askFigures();
            case 5 -> askShelf();
            default -> {
                for (int k = 0; k < mostAsked; k++) {
                    askCore();
                }
            }
        }
    }

    private void askGoal() {
        int p = somePack();
        same("versionOf(" + p + ")", () -> kit.versionOf(p), () -> model.versionOf(p));
        same("isOn(" + p + ")", () -> kit.isOn(p), () -> model.isOn(p));
        same("changes()", kit::changes, model::changes);
        same("because(" + p + ")", () -> kit.because(p), () -> model.because(p));
        same("far(" + p + ")", () -> kit.far(p), () -> model.far(p));
        same("clashes()", kit::clashes, model::clashes);
        same("checksum()", kit::checksum, model::checksum);
    }

    private void askSets() {
        int p = somePack();
        int c = someCode(p);
        same("must(" + p + ", " + c + ")", () -> kit.must(p, c), () -> model.must(p, c));
        same("fitting()", kit::fitting, model::fitting);
        same("errors()", kit::errors, model::errors);
    }

    private void askScripts() {
        same("scripts()", kit::scripts, model::scripts);
        int a = some(Math.abs(model.scripts()));
        same("scriptAt(" + a + ")", () -> kit.scriptAt(a), () -> model.scriptAt(a));
        same("fetches()", kit::fetches, model::fetches);
        int b = some(Math.max(1, model.fetches()));
        same("fetchAt(" + b + ", false)", () -> kit.fetchAt(b, false),
                () -> model.fetchAt(b, false));
        same("fetchAt(" + b + ", true)", () -> kit.fetchAt(b, true), () -> model.fetchAt(b, true));
        same("plan()", kit::plan, model::plan);
        int d = some(model.isSound(model.root().goal) ? model.plan() : 1);
        same("planAt(" + d + ")", () -> kit.planAt(d), () -> model.planAt(d));
    }

    private void askInstalled() {
        int p = somePack();
        int e = some(model.root().history.size());
        int f = some(31);
        int w = some(3);
        same("installed(" + p + ")", () -> kit.installed(p), () -> model.installed(p));
        same("orphans()", kit::orphans, model::orphans);
        same("without(" + p + ")", () -> kit.without(p), () -> model.without(p));
        same("then(" + e + ", " + p + ")", () -> kit.then(e, p), () -> model.then(e, p));
        same("owner(" + f + ")", () -> kit.owner(f), () -> model.owner(f));
        same("failure(" + w + ")", () -> kit.failure(w), () -> model.failure(w));
        same("size()", kit::size, model::size);
        same("isSound()", kit::isSound, model::isSound);
    }

    private void askFigures() {
        int w = some(8);
        int l = some(3);
        int k = some(3);
        int m = some(model.s.mirrors.size());
        same("count(" + w + ")", () -> kit.count(w), () -> model.count(w));
        same("lockDiffers(" + l + ", " + k + ")", () -> kit.lockDiffers(l, k),
                () -> model.lockDiffers(l, k));
        same("meanSize()", kit::meanSize, model::meanSize);
        same("share()", kit::share, model::share);
        same("errorPosition()", kit::errorPosition, model::errorPosition);
        same("sumWrong(" + m + ")", () -> kit.sumWrong(m), () -> model.sumWrong(m));
    }

    private void askShelf() {
        int p = somePack();
        int v = some(8);
        same("versions(" + p + ")", () -> kit.versions(p), () -> model.versions(p));
        same("versionAt(" + p + ", " + v + ")", () -> kit.versionAt(p, v),
                () -> model.versionAt(p, v));
        tape(in(8) ? needText() : rangeText());
        same("inRange(" + p + ")", () -> kit.inRange(p), () -> model.inRange(p));
        same("errorPosition()", kit::errorPosition, model::errorPosition);
        same("count(4)", () -> kit.count(4), () -> model.count(4));
    }

    private void askCore() {
        same("core()", kit::core, model::core);
        int a = some(model.core());
        int b = some(5);
        same("coreAt(" + a + ", " + b + ")", () -> kit.coreAt(a, b), () -> model.coreAt(a, b));
        same("proof()", kit::proof, model::proof);
        int c = some(Math.max(1, model.proof()));
        int d = some(3);
        int e = some(4);
        same("proofAt(" + c + ", " + d + ")", () -> kit.proofAt(c, d), () -> model.proofAt(c, d));
        same("literalAt(" + c + ", " + e + ")", () -> kit.literalAt(c, e),
                () -> model.literalAt(c, e));
    }
}
