import java.math.BigInteger;
import java.util.ArrayList;
import java.util.List;
import java.util.Map;
import java.util.NoSuchElementException;
import java.util.TreeMap;

/** Edges of the sections 11 and 12 and of the promises 53 to 63: undo, exceptions, history, figures. */
final class HistoryEdges {
    private static final int MIN = Integer.MIN_VALUE;
    private static final int MAX = Integer.MAX_VALUE;
    private static final Class<IllegalStateException> STATE = IllegalStateException.class;
    private static final Class<IllegalArgumentException> ARGUMENT = IllegalArgumentException.class;
    private static final Class<IndexOutOfBoundsException> INDEX = IndexOutOfBoundsException.class;
    private static final Class<NoSuchElementException> ELEMENT = NoSuchElementException.class;

    private HistoryEdges() {}

    static void all() {
        changes();
        latestTen();
        undone();
        firstException();
        nothingChanged();
        textsAreRead();
        whichException();
        manyCalls();
        orphans();
        without();
        backTo();
        then();
        size();
        undo();
        checksum();
        isSound();
        errors();
        meanSize();
        share();
    }

    private static String letter(int pack) {
        return "" + (char) ('a' + pack);
    }

    /** Packages of which each has 1.0, with a size of 1; each one but the last needs the next one. */
    private static Kit chain(int packs) {
        Kit kit = Kit.of(packs);
        for (int p = 0; p < packs; p++) {
            kit.full(p, 10099, 1 << p, 1, p);
            if (p > 0) {
                kit.need(p - 1, 10099, letter(p));
            }
        }
        kit.wish("a");
        kit.x.solve(false);
        return kit;
    }

    /** A state in which each call can be made without an exception; five changes can be undone. */
    private static Kit rich() {
        Kit kit = chain(3);
        kit.x.mirror();
        for (int p = 0; p < 3; p++) {
            kit.x.offer(0, p, 10099, p);
        }
        kit.x.install();
        kit.x.lock(0);
        kit.v(0, 20099);
        kit.wish("a 2.0|c");
        for (int k = 0; k < 5; k++) {
            kit.x.root(0);
        }
        for (int k = 0; k < 5; k++) {
            kit.x.undo();
        }
        return kit;
    }

    /** By promises: each call but the constructor, in a state as rich. */
    private static Map<String, Kit.Call> calls(Kit kit) {
        Map<String, Kit.Call> calls = new TreeMap<>();
        Kit.Call[] all = {() -> kit.x.append('?', 0, 0, 0, 0), kit.x::clearTape, kit.x::errorPosition,
            kit.x::pack, () -> kit.x.version(1, 20099, 0, 0, 0), () -> kit.need(0, 20099, "b"),
            () -> kit.ban(0, 20099, "b"), () -> kit.x.provide(0, 20099, 1, 30099),
            () -> kit.option(0, 20099, "b"), () -> kit.x.count(4), () -> kit.x.versions(0),
            () -> kit.x.versionAt(0, 1), () -> kit.inRange(0, "*"), () -> kit.x.root(1),
            () -> kit.wish("b"), () -> kit.x.unwish(0), () -> kit.x.hold(0, true),
            () -> kit.pin(0, "1.0"), () -> kit.x.quota(5), () -> kit.x.solve(false),
            () -> kit.x.versionOf(0), () -> kit.x.isOn(0), kit.x::changes, () -> kit.x.must(0, 20099),
            kit.x::fitting, () -> kit.x.because(0), () -> kit.x.far(0), kit.x::core,
            () -> kit.x.coreAt(0, 0), kit.x::proof, () -> kit.x.proofAt(0, 0),
            () -> kit.x.literalAt(0, 0), () -> kit.x.lock(1), () -> kit.x.lockDiffers(0, 1),
            () -> kit.x.mergeLocks(1, 2), () -> kit.x.takeLock(1), kit.x::mirror,
            () -> kit.x.offer(0, 0, 20099, 7), () -> kit.x.sumWrong(0), kit.x::fetches,
            () -> kit.x.fetchAt(0, true), kit.x::plan, () -> kit.x.planAt(0), kit.x::install,
            () -> kit.x.failure(0), () -> kit.x.installed(0), () -> kit.x.owner(0), kit.x::clashes,
            () -> kit.x.fails(0, 20099, true), kit.x::scripts, () -> kit.x.scriptAt(0), kit.x::orphans,
            () -> kit.x.without(0), () -> kit.x.backTo(-1), () -> kit.x.then(0, 0), kit.x::size,
            kit.x::undo, kit.x::checksum, kit.x::isSound, kit.x::errors, kit.x::meanSize, kit.x::share};
        for (int k = 0; k < all.length; k++) {
            calls.put("P" + (k + 2), all[k]);
        }
        return calls;
    }

    /** As rich; where a call asks for a core or a step, with one. */
    private static Kit richFor(String promise) {
        Kit kit = rich();
        if (List.of("P30", "P32", "P33").contains(promise)) {
            kit.wish("a 1.0");
            kit.pin(1, "7.0");
        }
        if (List.of("P42", "P44").contains(promise)) {
            kit.x.root(1);
            kit.wish("c");
            kit.x.solve(false);
        }
        return kit;
    }

    // ---- Section 11

    private static void changes() {
        Edge edge = Edge.of("11", "A change is a call that is none of the questions (those told below as such), "
                + "but append(), clearTape() and undo(), and that throws no exception.");
        List<String> questions = Edge.promisesThatSay("(A question.)");
        for (String promise : questions) {
            edge.and(promise, "(A question.)");
        }
        edge.holds(() -> {
            Kit.same("calls", calls(rich()).size(), 62);
            for (String promise : calls(rich()).keySet()) {
                Kit kit = richFor(promise);
                int before = kit.x.count(7);
                String all = kit.all();
                Object answer = Kit.answer(calls(kit).get(promise));
                Kit.same(promise + " throws", String.valueOf(answer).endsWith("Exception"), false);
                boolean isChange = !questions.contains(promise)
                        && !List.of("P2", "P3", "P14", "P58").contains(promise);
                int due = promise.equals("P58") ? before - 1 : isChange ? before + 1 : before;
                Kit.same("changes behind " + promise, kit.x.count(7), due);
                if (!isChange && !promise.equals("P58")) {
                    Kit.same("all behind " + promise, kit.all(), all);
                }
            }
            Kit kit = rich();
            int before = kit.x.count(7);
            Kit.same("throws", Kit.answer(() -> kit.x.quota(-1)), "IllegalArgumentException");
            Kit.same("is no change", kit.x.count(7), before);
        });
    }

    private static void latestTen() {
        Edge.of("11", "The latest 10 changes can be undone, the latest one first;").holds(() -> {
            Kit kit = new Kit();
            for (int k = 1; k <= 25; k++) {
                kit.x.quota(k);
                Kit.same("can be undone", kit.x.count(7), Math.min(k, 10));
            }
            for (int k = 24; k >= 15; k--) {
                Kit.same("undo", kit.x.undo(), k - 15);
                Kit.same("the one ahead", kit.x.quota(99), k);
                Kit.same("undo", kit.x.undo(), k - 15);
            }
            Kit.same("no 11th", kit.x.undo(), -1);
            Kit.same("as it was", kit.x.quota(99), 15);
            Kit.same("undo that", kit.x.undo(), 0);
            for (int k = 1; k <= 4; k++) {
                kit.x.quota(100 + k);
            }
            Kit.same("four came", kit.x.count(7), 4);
            for (int k = 3; k >= 0; k--) {
                Kit.same("undo", kit.x.undo(), k);
            }
            Kit.same("no 5th", kit.x.undo(), -1);
        });
    }

    private static void undone() {
        Edge.of("11", "all is then as it was ahead of the change, but the tape, its error position, and what can "
                + "be undone.").holds(() -> {
            Kit.same("install", full20(0, false).x.install() + " " + full20(0, true).x.install(), "2 -1");
            for (int k = 0; k < 4 * changesOf(full20(0, true)).length; k++) {
                // Root 0 twice, with a script that fails, and roots 1 and 2.
                Kit undone = full20(Math.max(0, k % 4 - 1), k % 4 == 1);
                Kit never = full20(Math.max(0, k % 4 - 1), k % 4 == 1);
                int undoable = undone.x.count(7);
                changesOf(undone)[k / 4].on();
                Kit.same("change " + k, undone.x.count(7), undoable + 1);
                Kit.same("change " + k + " undone", undone.x.undo(), undoable);
                for (int root = 0; root < 3; root++) {
                    Kit.same("change " + k + " undone", inRoot(undone, root), inRoot(never, root));
                }
                List<String> behind = afterwards(undone);
                List<String> due = afterwards(never);
                for (int step = 0; step < due.size(); step++) {
                    Kit.same("change " + k + " undone, step " + step, behind.get(step), due.get(step));
                }
            }
            Kit first = Kit.of(1).v(0, 10099);
            first.option(0, 10099, "a");
            first.x.undo();
            Kit.same("option of the first version", first.option(0, 10099, "a"), 1);
            Kit kit = rich();
            kit.misread("a ?", 2, kit.x::wish);
            kit.x.quota(7);
            kit.tape("xy");
            Kit.same("undo", kit.x.undo(), 5);
            Kit.same("the error position stays", kit.x.errorPosition(), 2);
            Kit.same("the tape stays", kit.x.clearTape(), 2);
            kit.wish("a");
            kit.x.undo();
            Kit.same("the error position stays", kit.x.errorPosition(), -1);
            Kit.same("the tape stays", kit.x.clearTape(), 0);
        });
    }

    /**
     * A history that is full, and in which one entry is unlike the next one; a goal that is not
     * installed, but can be, or fails by the script of a; five changes can be undone.
     */
    private static Kit full20(int root, boolean isFailing) {
        Kit kit = chain(3);
        kit.x.root(root);
        if (root > 0) {
            kit.wish("a");
        }
        kit.full(0, 20099, 8, 5, 9).full(1, 20099, 16, 6, 10);
        for (int m = 0; m < 2; m++) {
            kit.x.mirror();
            for (int p = 0; p < 3; p++) {
                kit.x.offer(m, p, 10099, p);
            }
        }
        kit.pin(0, "1.0");
        kit.pin(1, "1.0");
        for (int k = 0; k < 11; k++) {
            kit.x.backTo(-1);
            kit.x.install();
            kit.x.solve(false);
            kit.x.install();
        }
        kit.x.lock(2);
        kit.pin(0, "2.0");
        kit.need(0, 20099, "b");
        kit.ban(0, 20099, "b 7.0");
        kit.x.provide(0, 20099, 1, 40099);
        kit.option(0, 20099, "c");
        kit.wish("a#");
        kit.x.offer(0, 0, 20099, 99);
        kit.x.offer(1, 0, 20099, 9);
        kit.x.hold(2, true);
        kit.x.quota(30000);
        kit.x.fails(0, 20099, isFailing);
        kit.x.solve(false);
        for (int k = 0; k < 5; k++) {
            kit.x.root(root);
        }
        for (int k = 0; k < 5; k++) {
            kit.x.undo();
        }
        return kit;
    }

    /** Changes of all kinds, in a state as full20. */
    private static Kit.Call[] changesOf(Kit kit) {
        return new Kit.Call[] {kit.x::pack, () -> kit.x.version(1, 30099, 9, 8, 7),
            () -> kit.x.version(0, 99, 9, 8, 7), () -> kit.ahead(0, 20099, "c"),
            () -> kit.ban(0, 20099, "b 7.0"), () -> kit.x.provide(0, 20099, 2, 60099),
            () -> kit.option(1, 20099, "c"), () -> kit.ban(1, 20099, "c"), () -> kit.x.root(1),
            () -> kit.x.root(0), () -> kit.need(1, 20099, "a#"), () -> kit.x.provide(1, 20099, 0, 99),
            () -> kit.wish("b"), () -> kit.x.unwish(0), () -> kit.x.hold(0, true),
            () -> kit.x.hold(1, false), () -> kit.pin(0, "1.0"), () -> kit.pin(1, ""),
            () -> kit.x.quota(5), () -> kit.x.quota(40000), () -> kit.x.solve(false),
            () -> kit.x.solve(true), () -> kit.x.lock(1), () -> kit.x.lock(2),
            () -> kit.x.mergeLocks(1, 2), () -> kit.x.takeLock(1), kit.x::mirror,
            () -> kit.x.offer(0, 0, 20099, 7), () -> kit.x.offer(1, 2, 10099, 7),
            () -> kit.x.offer(0, 1, 20099, 10), () -> kit.x.offer(1, 1, 20099, 0), kit.x::install,
            () -> kit.x.fails(0, 20099, true), () -> kit.x.fails(2, 10099, false),
            () -> kit.x.backTo(-1), () -> kit.x.backTo(kit.x.count(5) - 20)};
    }

    /** What a row of calls of all kinds answers; it makes what an undone change has made before. */
    private static List<String> afterwards(Kit kit) {
        List<String> answers = new ArrayList<>();
        Kit.Call[] calls = {kit.x::install, () -> kit.x.offer(0, 0, 20099, 0),
            () -> kit.x.offer(1, 1, 10099, 1), kit.x::install, () -> kit.x.backTo(kit.x.count(5) - 20),
            () -> kit.x.lock(0), kit.x::pack, () -> kit.x.version(3, 40099, 1024, 3, 11),
            () -> kit.x.version(1, 50099, 2048, 4, 12), () -> kit.need(3, 40099, "b 5.0"),
            () -> kit.need(3, 40099, "b"), () -> kit.need(3, 40099, "d"), () -> kit.ban(3, 40099, "a 7.0"),
            () -> kit.x.provide(3, 40099, 0, 80099), () -> kit.option(3, 40099, "a 1.0"),
            () -> kit.x.fails(3, 40099, false), () -> kit.wish("d"), () -> kit.x.solve(false),
            () -> kit.x.offer(0, 3, 40099, 11), () -> kit.x.offer(0, 1, 50099, 12), kit.x::install,
            () -> kit.x.fails(0, 20099, false), kit.x::install, () -> kit.wish("d#"),
            () -> kit.x.solve(true), kit.x::install, () -> kit.x.hold(1, true), () -> kit.pin(0, "*"),
            () -> kit.x.unwish(0), () -> kit.x.quota(7), () -> kit.x.lock(1), () -> kit.x.mergeLocks(0, 2),
            () -> kit.x.backTo(-1), kit.x::install, () -> kit.x.root(1), () -> kit.wish("b"),
            () -> kit.x.solve(false), kit.x::install};
        for (Kit.Call call : calls) {
            answers.add(Kit.answer(call) + "\n" + kit.all());
        }
        return answers;
    }

    private static String inRoot(Kit kit, int root) {
        kit.x.root(root);
        String all = kit.all() + kit.x.quota(3);
        kit.x.undo();
        kit.x.undo();
        return all;
    }

    // ---- Section 12

    private static void firstException() {
        Edge.of("12", "If several exceptions apply to a call, the one that is listed first is thrown.")
                .holds(() -> {
            Kit kit = full();
            kit.unread("version: package, code, files", INDEX, () -> kit.x.version(2, 0, -1, -1, 0));
            kit.unread("version: code, too many", ARGUMENT, () -> kit.x.version(0, 0, 0, 0, 0));
            kit.unread("version: files, it is there", ARGUMENT, () -> kit.x.version(0, 10099, -1, 0, 0));
            kit.unread("version: size, it is there", ARGUMENT, () -> kit.x.version(0, 10099, 0, 1001, 0));
            kit.unread("need: version, text", INDEX, () -> kit.x.need(0, 99, true));
            kit.unread("need: too many, text", STATE, () -> kit.x.need(0, 10099, true));
            kit.unread("ban: package, text", INDEX, () -> kit.x.ban(2, 10099));
            kit.unread("ban: too many, text", STATE, () -> kit.x.ban(0, 10099));
            kit.unread("provide: other, code", INDEX, () -> kit.x.provide(0, 10099, 2, 0));
            kit.unread("provide: version, itself", INDEX, () -> kit.x.provide(0, 99, 0, 0));
            kit.unread("provide: itself, too many", ARGUMENT, () -> kit.x.provide(0, 10099, 0, 99));
            kit.unread("provide: code, too many", ARGUMENT, () -> kit.x.provide(0, 10099, 1, 0));
            kit.unread("option: version, text", INDEX, () -> kit.x.option(0, 99));
            kit.unread("option: it has it, text", STATE, () -> kit.x.option(0, 10099));
            kit.unread("inRange: package, text", INDEX, () -> kit.x.inRange(2));
            kit.unread("wish: too many, text", STATE, kit.x::wish);
            kit.unread("pin: package, text", INDEX, () -> kit.x.pin(2));
            kit.unread("coreAt: place, what", INDEX, () -> kit.x.coreAt(99, 5));
            kit.unread("proofAt: row, what", INDEX, () -> kit.x.proofAt(999, 3));
            kit.unread("planAt: not sound, step", STATE, () -> kit.x.planAt(-1));
            kit.unread("then: entry, package", ELEMENT, () -> kit.x.then(0, 2));
            Kit ring = Kit.of(2).v(0, 10099).v(1, 10099);
            ring.ahead(0, 10099, "b");
            ring.ahead(1, 10099, "a");
            ring.wish("a");
            ring.x.solve(false);
            ring.unread("fetchAt: order, place", ELEMENT, () -> ring.x.fetchAt(-1, true));
        });
    }

    /** a has 8 versions, of which 1.0 has all that it can have; 8 wishes; the goal is not sound. */
    private static Kit full() {
        Kit kit = Kit.of(2).v(0, 10099, 10199, 10299, 10399, 10499, 10599, 10699, 10799).v(1, 10099);
        kit.wish("a 1.0");
        kit.x.solve(false);
        for (int k = 0; k < 3; k++) {
            kit.need(0, 10099, "b 7.0");
        }
        for (int k = 0; k < 2; k++) {
            kit.ban(0, 10099, "b");
            kit.x.provide(0, 10099, 1, 99);
        }
        kit.option(0, 10099, "b");
        for (int w = 1; w < 8; w++) {
            kit.wish("a");
        }
        return kit;
    }

    /** Calls that throw in the state full, without reading the tape. */
    private static Kit.Call[] refusedCalls(Kit kit) {
        return new Kit.Call[] {() -> kit.x.version(0, 10199, 0, 0, 0), () -> kit.x.version(0, 99, 0, 0, 0),
            () -> kit.x.version(0, 0, 0, 0, 0), () -> kit.x.version(2, 99, 0, 0, 0),
            () -> kit.x.need(0, 10099, true), () -> kit.x.need(0, 99, true), () -> kit.x.ban(0, 10099),
            () -> kit.x.ban(2, 10099), () -> kit.x.provide(0, 10099, 1, 99),
            () -> kit.x.provide(0, 10199, 0, 99), () -> kit.x.provide(0, 10199, 2, 99),
            () -> kit.x.option(0, 10099), () -> kit.x.option(0, 99), () -> kit.x.count(8),
            () -> kit.x.versions(2), () -> kit.x.versionAt(0, 8), () -> kit.x.inRange(2),
            () -> kit.x.root(3), kit.x::wish, () -> kit.x.unwish(8), () -> kit.x.hold(2, true),
            () -> kit.x.pin(2), () -> kit.x.quota(40001), () -> kit.x.versionOf(2), () -> kit.x.isOn(2),
            () -> kit.x.must(0, 99), () -> kit.x.because(2), () -> kit.x.far(2),
            () -> kit.x.coreAt(-1, 0), () -> kit.x.coreAt(0, 5), () -> kit.x.proofAt(-1, 0),
            () -> kit.x.proofAt(0, 3), () -> kit.x.literalAt(-1, 0), () -> kit.x.lock(3),
            () -> kit.x.lockDiffers(0, 3), () -> kit.x.mergeLocks(0, 3), () -> kit.x.takeLock(3),
            () -> kit.x.offer(3, 0, 10099, 0), () -> kit.x.sumWrong(3), () -> kit.x.fetchAt(9, true),
            kit.x::plan, () -> kit.x.planAt(0), kit.x::install, () -> kit.x.failure(3),
            () -> kit.x.installed(2), () -> kit.x.owner(31), () -> kit.x.fails(0, 99, true),
            () -> kit.x.scriptAt(9), () -> kit.x.without(2), () -> kit.x.backTo(0),
            () -> kit.x.then(0, 0)};
    }

    private static void nothingChanged() {
        Edge.of("12", "A call that throws an exception changes nothing,").holds(() -> {
            int number = refusedCalls(full()).length;
            for (int k = 0; k < number; k++) {
                Kit kit = full();
                kit.x.mirror();
                kit.x.mirror();
                kit.x.mirror();
                kit.x.quota(77);
                kit.x.append('b' << 24 | '?' << 16, 0, 0, 0, 0);
                String before = kit.all();
                Kit.same("call " + k + " throws",
                        String.valueOf(Kit.answer(refusedCalls(kit)[k])).endsWith("Exception"), true);
                Kit.same("call " + k + ": all", kit.all(), before);
                Kit.same("call " + k + ": undoable", kit.x.count(7), 10);
                Kit.same("call " + k + ": error position", kit.x.errorPosition(), -1);
                Kit.same("call " + k + ": tape", kit.x.clearTape(), 2);
                kit.x.undo();
                Kit.same("call " + k + ": the latest change is undone", kit.x.quota(0), 40000);
            }
            Kit kit = full();
            kit.x.append(-1, -1, -1, -1, -1);
            String before = kit.all();
            Kit.same("pack", Kit.answer(() -> {
                for (int k = 0; k < 11; k++) {
                    kit.x.pack();
                }
                return null;
            }), "IllegalStateException");
            Kit.same("ten came ahead", kit.x.count(0), 12);
            for (int k = 0; k < 10; k++) {
                kit.x.undo();
            }
            Kit.same("all", kit.all(), before);
        });
    }

    private static void textsAreRead() {
        Edge.of("12", "except that calls that read the tape empty it and set the error position, if they do not "
                + "throw an exception that is listed ahead of the one for an error of the text.").holds(() -> {
            Kit kit = Kit.of(2).v(0, 10099);
            Kit.Call[] calls = {() -> kit.x.need(0, 10099, false), () -> kit.x.ban(0, 10099),
                () -> kit.x.option(0, 10099), () -> kit.x.inRange(0), kit.x::wish, () -> kit.x.pin(0)};
            for (Kit.Call call : calls) {
                kit.misread("  ?", 2, call);
                kit.misread("c", 0, call);
            }
            Kit full = full();
            Kit.Call[] ahead = {() -> full.x.need(0, 10099, false), () -> full.x.need(0, 99, false),
                () -> full.x.ban(0, 10099), () -> full.x.ban(2, 10099), () -> full.x.option(0, 10099),
                () -> full.x.option(0, 99), () -> full.x.inRange(2), full.x::wish, () -> full.x.pin(-1)};
            for (Kit.Call call : ahead) {
                full.misread("  ?", 2, () -> full.x.inRange(0));
                full.tape("  b");
                Kit.same("throws", String.valueOf(Kit.answer(call)).endsWith("Exception"), true);
                Kit.same("the error position stays", full.x.errorPosition(), 2);
                full.tape("?");
                Kit.same("reads", Kit.answer(() -> full.x.need(1, 10099, true)), "IllegalArgumentException");
                Kit.same("the tape stayed", full.x.errorPosition(), 3);
            }
        });
    }

    private static void whichException() {
        Edge.of("12", "A package, a version, a wish, a mirror or a place that is not there causes an "
                + "IndexOutOfBoundsException;").holds(() -> {
            Kit kit = full();
            for (int pack : new int[] {-1, 2, 11, 12, MIN, MAX}) {
                Kit.Call[] calls = {() -> kit.x.version(pack, 99, 0, 0, 0), () -> kit.x.need(pack, 99, true),
                    () -> kit.x.ban(pack, 99), () -> kit.x.provide(pack, 99, 0, 99),
                    () -> kit.x.provide(0, 10099, pack, 99), () -> kit.x.option(pack, 99),
                    () -> kit.x.versions(pack), () -> kit.x.versionAt(pack, 0), () -> kit.x.inRange(pack),
                    () -> kit.x.hold(pack, true), () -> kit.x.pin(pack), () -> kit.x.versionOf(pack),
                    () -> kit.x.isOn(pack), () -> kit.x.must(pack, 99), () -> kit.x.because(pack),
                    () -> kit.x.far(pack), () -> kit.x.installed(pack), () -> kit.x.fails(pack, 99, true),
                    () -> kit.x.without(pack)};
                for (int k = 0; k < calls.length; k++) {
                    kit.unread("package " + pack + ", call " + k, INDEX, calls[k]);
                }
            }
            kit.unread("version", INDEX, () -> kit.x.must(0, 99));
            kit.unread("wish", INDEX, () -> kit.x.unwish(8));
            kit.unread("mirror", INDEX, () -> kit.x.sumWrong(0));
            kit.unread("place", INDEX, () -> kit.x.versionAt(0, 8));
        });
        Edge.of("12", "another number out of range causes an IllegalArgumentException.").holds(() -> {
            Kit kit = full();
            kit.outside("count", 0, 7, ARGUMENT, kit.x::count);
            kit.outside("root", 0, 2, ARGUMENT, kit.x::root);
            kit.outside("quota", 0, 40000, ARGUMENT, kit.x::quota);
            kit.outside("lock", 0, 2, ARGUMENT, kit.x::lock);
            kit.outside("lockDiffers", 0, 2, ARGUMENT, lock -> kit.x.lockDiffers(lock, 0));
            kit.outside("mergeLocks", 0, 2, ARGUMENT, lock -> kit.x.mergeLocks(lock, 0));
            kit.outside("takeLock", 0, 2, ARGUMENT, kit.x::takeLock);
            kit.outside("coreAt", 0, 4, ARGUMENT, what -> kit.x.coreAt(0, what));
            kit.outside("proofAt", 0, 2, ARGUMENT, what -> kit.x.proofAt(0, what));
            kit.outside("failure", 0, 2, ARGUMENT, kit.x::failure);
            kit.outside("owner", 0, 30, ARGUMENT, kit.x::owner);
            kit.outside("size", 0, 1000, ARGUMENT, size -> kit.x.version(0, 99, 0, size, 0));
        });
    }

    private static void manyCalls() {
        Edge.of("What it is", "An object is used for at most 512 calls after it has been made;").holds(() -> {
            Kit kit = new Kit();
            kit.x.pack();
            kit.x.version(0, 10099, 1, 2, 3);
            kit.x.append('a', 0, 0, 0, 0);
            kit.x.wish();
            for (int k = 0; k < 253; k++) {
                if (k % 2 == 0) {
                    kit.x.solve(true);
                } else {
                    kit.x.backTo(-1);
                }
                Kit.same("install", kit.x.install(), 1);
            }
            Kit.same("call 511", kit.x.count(5), 253);
            Kit.same("call 512", kit.x.then(252, 0), 10099);
        });
    }

    // ---- Promises 53 to 57

    private static void orphans() {
        Edge.of("P53", "Returns the sum of 2 to the power of each of them.").holds(() -> {
            Kit.same("nothing", new Kit().x.orphans(), 0);
            Kit kit = chain(12);
            kit.x.install();
            Kit.same("none", kit.x.orphans(), 0);
            for (int p = 0; p < 12; p++) {
                if (p % 2 == 0) {
                    kit.x.unwish(p / 2);
                    Kit.same("all", kit.x.orphans(), 4095);
                    kit.wish(letter(p));
                    Kit.same("those ahead of it", kit.x.orphans(), (1 << p) - 1);
                }
            }
        });
    }

    private static void without() {
        Edge.of("P54", "Returns the sum of 2 to the power of each of them;").holds(() -> {
            Kit kit = chain(12);
            kit.x.install();
            for (int p = 0; p < 12; p++) {
                Kit.same("all ahead of it, not itself", kit.x.without(p), (1 << p) - 1);
            }
        });
        Edge.of("P54", "0 if the package is not installed.").holds(() -> {
            Kit kit = chain(2);
            Kit.same("in the goal alone", kit.x.without(1), 0);
            kit.x.install();
            Kit.same("installed", kit.x.without(1), 1);
            kit.x.root(1);
            Kit.same("in another root", kit.x.without(1), 0);
        });
        Edge.of("P54", "of what is installed without it, again and again, those packages that have a need, or a "
                + "need of an option that is on, that is not met any more.").holds(() -> {
            Kit kit = Kit.of(5);
            for (int p = 0; p < 5; p++) {
                kit.v(p, 10099);
            }
            kit.option(0, 10099, "e");
            kit.need(1, 10099, "a#");
            kit.need(2, 10099, "b|d");
            kit.need(3, 10099, "a");
            kit.wish("a");
            kit.wish("b");
            kit.wish("c");
            kit.wish("d");
            kit.install();
            Kit.same("e, a, then b and d, then c", kit.x.without(4), 15);
            Kit.same("b and d, then c", kit.x.without(0), 14);
            Kit.same("c has d", kit.x.without(1), 0);
            Kit.same("c has b", kit.x.without(3), 0);
            Kit.same("none", kit.x.without(2), 0);
            Kit off = Kit.of(2).v(0, 10099).v(1, 10099);
            off.option(0, 10099, "b");
            off.wish("a");
            off.wish("b");
            off.install();
            Kit.same("an option that is off", off.x.without(1), 0);
        });
        Edge.of("P54", "- `pack`: number of a package",
                "Throws `IndexOutOfBoundsException` if there is no such package").holds(() -> {
            Kit none = new Kit();
            none.noPackage("without", none.x::without);
            Kit kit = chain(12);
            kit.x.install();
            kit.noPackage("without", kit.x::without);
        });
    }

    private static void backTo() {
        Edge.of("P55", "- `entry`: number of an entry of the history that is kept, or NONE for nothing",
                "Makes the goal what was installed then.").holds(() -> {
            Kit kit = chain(2);
            Kit.same("nothing", kit.x.backTo(-1), 0);
            Kit.same("nothing", kit.goal(), "- -");
            kit.x.solve(false);
            kit.x.install();
            Kit.same("nothing", kit.x.backTo(-1), 2);
            Kit.same("nothing", kit.goal(), "- -");
            Kit.same("the first entry", kit.x.backTo(0), 0);
            Kit.same("the first entry", kit.goal(), "10099 10099");
        });
        Edge.of("P55", "Throws `NoSuchElementException` if it is not kept, or none has come with this number")
                .holds(() -> {
            Kit kit = chain(1);
            for (int k = 0; k <= 45; k++) {
                int oldest = Math.max(0, k - 20);
                for (int entry : new int[] {-2, oldest - 1, k, k + 1, MIN, MAX}) {
                    if (entry != -1) {
                        kit.unread("entry " + entry + " of " + k, ELEMENT, () -> kit.x.backTo(entry));
                    }
                }
                if (k > 0) {
                    Kit.same("the oldest", kit.x.backTo(oldest), (k - 1 - oldest) % 2);
                    Kit.same("the latest", kit.x.backTo(k - 1), 0);
                    kit.x.backTo(-1);
                }
                if (k % 2 == 0) {
                    kit.x.solve(false);
                }
                Kit.same("the one that is installed then differs", kit.x.install(), 1);
                Kit.same("now", kit.x.backTo(k), 0);
            }
        });
        Edge.of("P55", "Returns the number of changes from what is installed.").holds(() -> {
            Kit kit = chain(12);
            Kit.same("none", kit.x.backTo(-1), 0);
            kit.x.solve(false);
            kit.x.install();
            Kit.same("all", kit.x.backTo(-1), 12);
            Kit.same("none", kit.x.backTo(0), 0);
        });
    }

    private static void then() {
        Edge.of("P56", "- `entry`: number of an entry that is kept",
                "Throws `NoSuchElementException` if there is no such entry").holds(() -> {
            Kit kit = chain(1);
            for (int k = 0; k <= 45; k++) {
                int oldest = Math.max(0, k - 20);
                for (int entry : new int[] {-2, -1, oldest - 1, k, k + 1, MIN, MAX}) {
                    kit.unread("entry " + entry + " of " + k, ELEMENT, () -> kit.x.then(entry, 0));
                }
                for (int entry = oldest; entry < k; entry++) {
                    Kit.same("entry " + entry, kit.x.then(entry, 0), entry % 3 == 0 ? 10099 : -1);
                }
                kit.x.backTo(-1);
                if (k % 3 == 0) {
                    kit.x.solve(false);
                }
                kit.x.install();
            }
            kit.x.root(1);
            kit.unread("of another root", ELEMENT, () -> kit.x.then(45, 0));
        });
        Edge.of("P56", "NONE if it was not installed.", "Returns its code;").holds(() -> {
            Kit kit = chain(2);
            kit.x.install();
            kit.x.backTo(-1);
            kit.x.install();
            Kit.same("then", kit.x.then(0, 0) + " " + kit.x.then(0, 1), "10099 10099");
            Kit.same("not then", kit.x.then(1, 0) + " " + kit.x.then(1, 1), "-1 -1");
            kit.x.pack();
            Kit.same("a package that came later", kit.x.then(0, 2), -1);
        });
        Edge.of("P56", "- `pack`: number of a package",
                "Throws `IndexOutOfBoundsException` if there is no such package").holds(() -> {
            Kit kit = chain(12);
            kit.x.install();
            kit.noPackage("then", pack -> kit.x.then(0, pack));
            Kit.same("the last", kit.x.then(0, 11), 10099);
            Kit none = new Kit();
            none.x.install();
            none.noPackage("then", pack -> none.x.then(0, pack));
        });
    }

    private static void size() {
        Edge.of("P57", "Returns the sum of the sizes of its versions.").holds(() -> {
            Kit.same("nothing", new Kit().x.size(), 0);
            Kit kit = Kit.of(12);
            for (int p = 0; p < 12; p++) {
                kit.full(p, 10099, 0, 1000, 0);
                kit.full(p, 20099, 0, 0, 0);
            }
            for (int p = 0; p < 8; p++) {
                kit.wish(letter(p) + (p < 4 ? "|" + letter(p + 8) : ""));
            }
            kit.install();
            Kit.same("the least", kit.x.size(), 0);
            for (int p = 0; p < 12; p++) {
                kit.pin(p, "1.0");
            }
            kit.x.solve(false);
            Kit.same("not of the goal", kit.x.size(), 0);
            kit.x.install();
            Kit.same("the greatest", kit.x.size(), 12000);
            kit.x.root(2);
            Kit.same("another root", kit.x.size(), 0);
        });
    }

    // ---- Promises 58 to 63

    private static void undo() {
        Edge.of("P58", "Returns how many can still be undone;").holds(() -> {
            for (int changes = 1; changes <= 12; changes++) {
                Kit kit = Kit.of(changes);
                for (int k = Math.min(changes, 10) - 1; k >= 0; k--) {
                    Kit.same("left", kit.x.undo(), k);
                    Kit.same("left", kit.x.count(7), k);
                }
                Kit.same("packages", kit.x.count(0), Math.max(0, changes - 10));
            }
        });
        Edge.of("P58", "NONE, and nothing is different, if there was none.").holds(() -> {
            Kit kit = new Kit();
            Kit.same("none yet", kit.x.undo(), -1);
            for (int p = 0; p < 12; p++) {
                kit.x.pack();
            }
            for (int k = 0; k < 10; k++) {
                kit.x.undo();
            }
            String before = kit.all();
            kit.misread("?", 0, kit.x::wish);
            kit.tape("xyz");
            for (int k = 0; k < 3; k++) {
                Kit.same("none any more", kit.x.undo(), -1);
                Kit.same("nothing is different", kit.all(), before);
                Kit.same("count(7)", kit.x.count(7), 0);
                Kit.same("error position", kit.x.errorPosition(), 0);
            }
            Kit.same("tape", kit.x.clearTape(), 3);
            kit.x.pack();
            Kit.same("one again", kit.x.undo(), 0);
        });
    }

    private static void checksum() {
        Edge.of("P59", "17 at first, then for each package 31 times as much and its version in the goal (NONE "
                + "without one), plus 1000000 if its option is on, and likewise with what is installed;")
                .holds(() -> {
            Kit kit = new Kit();
            Kit.same("without packages", kit.x.checksum(), 17);
            kit.x.pack();
            Kit.same("without versions", kit.x.checksum(), (17 * 31 - 1) * 31 - 1);
            kit.v(0, 10099);
            kit.option(0, 10099, "a");
            kit.wish("a");
            kit.x.solve(false);
            Kit.same("in the goal", kit.x.checksum(), (17 * 31 + 10099) * 31 - 1);
            kit.wish("a#");
            kit.x.solve(false);
            Kit.same("on", kit.x.checksum(), (17 * 31 + 1010099) * 31 - 1);
            kit.x.install();
            Kit.same("installed", kit.x.checksum(), (17 * 31 + 1010099) * 31 + 1010099);
            kit.x.backTo(-1);
            Kit.same("installed alone", kit.x.checksum(), (17 * 31 - 1) * 31 + 1010099);
            kit.x.root(1);
            Kit.same("of another root", kit.x.checksum(), (17 * 31 - 1) * 31 - 1);
        });
        Edge.of("P59", "it wraps.").holds(() -> {
            for (int packs = 0; packs <= 12; packs++) {
                Kit kit = packs == 0 ? new Kit() : chain(packs);
                BigInteger sum = BigInteger.valueOf(17);
                for (int p = 0; p < packs; p++) {
                    sum = sum.multiply(BigInteger.valueOf(31)).add(BigInteger.valueOf(10099));
                    sum = sum.multiply(BigInteger.valueOf(31)).subtract(BigInteger.ONE);
                }
                Kit.same("of " + packs, kit.x.checksum(), sum.intValue());
                Kit.same("goes beyond ints", sum.bitLength() > 31, packs > 2);
            }
        });
    }

    private static void isSound() {
        Edge.of("P60", "Returns true;", "always.").holds(() -> {
            Kit kit = chain(3);
            Kit.same("nothing", kit.x.isSound(), true);
            kit.x.install();
            kit.x.root(1);
            kit.wish("b");
            kit.install();
            kit.x.root(2);
            Kit.same("in all roots", kit.x.isSound(), true);
            kit.v(0, 20099);
            kit.ban(0, 20099, "b");
            kit.x.backTo(-1);
            Kit.same("whatever is told", kit.x.isSound(), true);
        });
    }

    private static void errors() {
        Edge.of("P61", "Returns the sum of these;", "always 0.", "1 if fitting() is 0 and a set is found, or it is "
                + "above 0 and none is found;", "1 if the newest set does not fit, or one of all sets that fit is "
                + "ahead of it (if fitting() is not NONE);", "1 if the least changed set does not fit, or one of "
                + "all sets that fit has fewer changes (if fitting() is not NONE);", "1 if the core is one that "
                + "can hold together, or of which one can be left out;", "1 if a row of the proof is not what "
                + "its two rows joined are, or the last one has a literal.").holds(() -> {
            Kit.same("nothing", new Kit().x.errors(), 0);
            Kit kit = chain(3);
            Kit.same("fits", kit.x.errors(), 0);
            kit.pin(1, "7.0");
            Kit.same("none fits", kit.x.errors(), 0);
            Kit large = Kit.of(12);
            for (int k = 0; k < 40; k++) {
                large.v(k % 12, 99 + 100 * k);
            }
            large.wish("a|b|c");
            Kit.same("fitting", large.x.fitting(), -1);
            Kit.same("more sets than are gone through", large.x.errors(), 0);
            large.pin(0, "7.0");
            large.pin(1, "7.0");
            large.pin(2, "7.0");
            Kit.same("none of these fits", large.x.errors(), 0);
        });
    }

    private static void meanSize() {
        Edge.of("P62", "0.0 without any.").holds(() -> {
            Kit.same("nothing", new Kit().x.meanSize(), 0.0);
            Kit kit = chain(2);
            Kit.same("in the goal alone", kit.x.meanSize(), 0.0);
            kit.x.install();
            Kit.same("two", kit.x.meanSize(), 1.0);
            kit.x.root(1);
            Kit.same("another root", kit.x.meanSize(), 0.0);
        });
        Edge.of("P62", "Returns size(), converted to double, divided by the number of packages that are "
                + "installed, converted to double;").holds(() -> {
            Kit kit = Kit.of(3).full(0, 10099, 0, 1, 0).full(1, 10099, 0, 1000, 0).v(2, 10099);
            kit.option(2, 10099, "a");
            kit.wish("a");
            kit.wish("b");
            kit.wish("c#");
            kit.install();
            Kit.same("a third", kit.x.meanSize(), 1001.0 / 3.0);
        });
    }

    private static void share() {
        Edge.of("P63", "0.0f if the quota is 0.").holds(() -> {
            Kit kit = chain(3);
            kit.x.quota(0);
            Kit.same("nothing", kit.x.share(), 0.0f);
            kit.x.quota(3);
            kit.x.install();
            Kit.same("all of it", kit.x.share(), 1.0f);
            kit.x.quota(0);
            Kit.same("three of 0", kit.x.share(), 0.0f);
        });
        Edge.of("P63", "Returns size(), converted to float, divided by the quota, converted to float;")
                .holds(() -> {
            Kit kit = chain(1);
            kit.x.install();
            int[] quotas = {1, 3, 7, 40000};
            for (int quota : quotas) {
                kit.x.quota(quota);
                Kit.same("one of " + quota, kit.x.share(), 1.0f / quota);
            }
            kit.x.root(1);
            Kit.same("nothing", kit.x.share(), 0.0f);
        });
    }
}
