import java.util.ArrayList;
import java.util.List;

/** Promises 53 to 63: orphans, what breaks, history, undo, and figures. */
public final class HistoryTest {
    private static final int MIN = Integer.MIN_VALUE;
    private static final int MAX = Integer.MAX_VALUE;

    public static void main(String[] args) {
        orphans();
        without();
        withoutOption();
        backTo();
        then();
        longHistory();
        size();
        undo();
        undoOfEachChange();
        undoneVersions();
        noChanges();
        checksum();
        isSound();
        errors();
        meanSize();
        share();
        Kit.end("HistoryTest");
    }

    private static void orphans() {
        Kit kit = Kit.of(5);
        for (int p = 0; p < 5; p++) {
            kit.v(p, 10099);
        }
        kit.need(0, 10099, "b");
        kit.need(2, 10099, "d");
        kit.option(3, 10099, "e");
        kit.need(2, 10099, "d#");
        kit.wish("a");
        kit.wish("c");
        Kit.same("nothing is installed", kit.x.orphans(), 0);
        kit.install();
        Kit.same("all are reached", kit.x.orphans(), 0);
        kit.x.unwish(1);
        Kit.same("c, d and e", kit.x.orphans(), 4 + 8 + 16);
        kit.wish("d|b");
        Kit.same("c alone, e by the option of d", kit.x.orphans(), 4);
        kit.x.backTo(-1);
        Kit.same("not of the goal", kit.x.orphans(), 4);
        kit.x.root(1);
        Kit.same("not of another root", kit.x.orphans(), 0);
    }

    private static void without() {
        Kit kit = Kit.of(6);
        for (int p = 0; p < 6; p++) {
            kit.v(p, 10099);
        }
        kit.need(0, 10099, "b");
        kit.need(1, 10099, "c");
        kit.need(3, 10099, "c|e");
        kit.need(4, 10099, "d|a");
        kit.x.provide(4, 10099, 1, 10099);
        for (int p = 0; p < 5; p++) {
            kit.wish("" + (char) ('a' + p));
        }
        Kit.same("nothing is installed", kit.x.without(2), 0);
        kit.install();
        Kit.same("not installed", kit.x.without(5), 0);
        Kit.same("b; d has e, a has what e provides", kit.x.without(2), 2);
        Kit.same("a", kit.x.without(0), 0);
        Kit.same("b", kit.x.without(1), 0);
        Kit.same("d", kit.x.without(3), 0);
        Kit.same("e", kit.x.without(4), 0);
        for (int pack : new int[] {-1, 6, MIN, MAX}) {
            kit.index("no package", () -> kit.x.without(pack));
        }
        withoutInRows();
    }

    private static void withoutInRows() {
        Kit kit = Kit.of(5);
        for (int p = 0; p < 5; p++) {
            kit.v(p, 10099);
        }
        kit.need(0, 10099, "c");
        kit.need(1, 10099, "a");
        kit.need(2, 10099, "d");
        kit.need(3, 10099, "d");
        kit.need(4, 10099, "a|b|e");
        for (int p = 0; p < 5; p++) {
            kit.wish("" + (char) ('a' + p));
        }
        kit.install();
        Kit.same("c, then a, then b; e meets its own need", kit.x.without(3), 7);
        Kit.same("a, then b", kit.x.without(2), 3);
    }

    private static void withoutOption() {
        Kit kit = Kit.of(4).v(0, 10099).v(1, 10099).v(2, 10099).v(3, 10099);
        kit.option(0, 10099, "b");
        kit.need(2, 10099, "a#");
        kit.need(3, 10099, "a");
        kit.wish("a");
        kit.wish("b");
        kit.wish("d");
        kit.install();
        Kit.same("the option is off", kit.x.without(1), 0);
        kit.wish("c");
        kit.install();
        Kit.same("it is on: a, then c and d", kit.x.without(1), 13);
        Kit.same("c by the option of a", kit.x.without(0), 12);
    }

    private static void backTo() {
        Kit kit = Kit.of(2).v(0, 10099, 20099).v(1, 10099);
        kit.element("none has come", () -> kit.x.backTo(0));
        kit.wish("a 1.0");
        kit.install();
        kit.x.unwish(0);
        kit.wish("a");
        kit.wish("b");
        kit.install();
        Kit.same("two changes", kit.x.backTo(0), 2);
        Kit.same("goal", kit.goal(), "10099 -");
        Kit.same("none", kit.x.backTo(1), 0);
        Kit.same("goal", kit.goal(), "20099 10099");
        Kit.same("to nothing", kit.x.backTo(-1), 2);
        Kit.same("goal", kit.goal(), "- -");
        for (int entry : new int[] {-2, 2, MIN, MAX}) {
            kit.element("no entry", () -> kit.x.backTo(entry));
        }
        kit.x.backTo(0);
        Kit.same("install", kit.x.install(), 2);
        Kit.same("installed", kit.installed(), "10099 -1");
        Kit.same("another entry", kit.x.count(5), 3);
        kit.x.root(1);
        kit.element("of another root", () -> kit.x.backTo(0));
        Kit.same("nothing in another root", kit.x.backTo(-1), 0);
    }

    private static void then() {
        Kit kit = Kit.of(2).v(0, 10099).v(1, 10099);
        kit.option(0, 10099, "a");
        kit.element("no entry, also no package", () -> kit.x.then(0, 2));
        kit.wish("a#");
        kit.install();
        kit.x.unwish(0);
        kit.wish("b");
        kit.install();
        Kit.same("first", kit.x.then(0, 0) + " " + kit.x.then(0, 1), "10099 -1");
        Kit.same("second", kit.x.then(1, 0) + " " + kit.x.then(1, 1), "-1 10099");
        for (int number : new int[] {-1, 2, MIN, MAX}) {
            kit.element("no entry", () -> kit.x.then(number, 0));
            kit.index("no package", () -> kit.x.then(0, number));
        }
        kit.x.undo();
        kit.element("undone", () -> kit.x.then(1, 0));
    }

    private static void longHistory() {
        Kit kit = Kit.of(1).v(0, 10099);
        kit.wish("a");
        kit.x.install();
        kit.x.solve(false);
        for (int k = 1; k < 20; k++) {
            kit.x.install();
        }
        Kit.same("20 have come", kit.x.count(5), 20);
        Kit.same("all are kept", kit.x.then(0, 0) + " " + kit.x.then(19, 0), "-1 10099");
        kit.x.install();
        Kit.same("21 have come", kit.x.count(5), 21);
        kit.element("the first one goes", () -> kit.x.then(0, 0));
        kit.element("the first one goes", () -> kit.x.backTo(0));
        Kit.same("the others keep their numbers", kit.x.then(1, 0) + kit.x.then(20, 0), 20198);
        kit.x.backTo(-1);
        kit.x.install();
        kit.element("the second one goes", () -> kit.x.then(1, 0));
        Kit.same("the latest", kit.x.then(21, 0), -1);
        kit.x.undo();
        Kit.same("it is back", kit.x.then(1, 0), 10099);
        kit.x.undo();
        kit.x.undo();
        Kit.same("and the first one", kit.x.then(0, 0), -1);
    }

    private static void size() {
        Kit kit = Kit.of(3).full(0, 10099, 0, 1000, 0).full(1, 10099, 0, 7, 0).full(2, 99, 0, 9, 0);
        Kit.same("nothing", kit.x.size(), 0);
        kit.wish("a");
        kit.wish("b");
        kit.x.solve(false);
        Kit.same("not of the goal", kit.x.size(), 0);
        kit.x.install();
        Kit.same("installed", kit.x.size(), 1007);
    }

    private static void undo() {
        Kit kit = new Kit();
        Kit.same("nothing to undo", kit.x.undo(), -1);
        for (int p = 0; p < 12; p++) {
            kit.x.pack();
        }
        Kit.same("ten", kit.x.count(7), 10);
        kit.tape("?");
        kit.argument("an error", () -> kit.x.wish());
        kit.tape("a");
        for (int k = 9; k >= 0; k--) {
            Kit.same("undo", kit.x.undo(), k);
            Kit.same("packages", kit.x.count(0), 2 + k);
        }
        Kit.same("no more", kit.x.undo(), -1);
        Kit.same("nothing is different", kit.x.count(0), 2);
        Kit.same("the tape is left", kit.x.clearTape(), 1);
        Kit.same("the error position is left", kit.x.errorPosition(), 0);
        Kit.same("a new change", kit.x.pack(), 2);
        Kit.same("can be undone", kit.x.count(7), 1);
        Kit.same("undo", kit.x.undo(), 0);
        Kit.same("packages", kit.x.count(0), 2);
    }

    /** Makes a change; then undoes it, and looks whether all is as it was; then makes it again. */
    private static void change(Kit kit, String what, Kit.Call call) {
        List<String> before = new ArrayList<>();
        for (int r = 0; r < 3; r++) {
            before.add(inRoot(kit, r));
        }
        String here = kit.all();
        int undoable = Math.min(kit.x.count(7) + 1, 10);
        Object first = Kit.answer(call);
        Kit.same(what + ": count(7)", kit.x.count(7), undoable);
        Kit.same(what + ": undo", kit.x.undo(), undoable - 1);
        Kit.same(what + ": all is as it was", kit.all(), here);
        for (int r = 0; r < 3; r++) {
            Kit.same(what + ": root " + r, inRoot(kit, r), before.get(r));
        }
        Kit.same(what + " again", Kit.answer(call), first);
    }

    /** All that a root answers; leaves the same root at hand and as many changes. */
    private static String inRoot(Kit kit, int which) {
        kit.x.root(which);
        String all = kit.all() + kit.x.quota(3);
        kit.x.undo();
        kit.x.undo();
        return all;
    }

    private static void undoOfEachChange() {
        Kit kit = new Kit();
        change(kit, "pack", kit.x::pack);
        change(kit, "pack", kit.x::pack);
        change(kit, "version", () -> kit.x.version(0, 10099, 1, 2, 3));
        change(kit, "version", () -> kit.x.version(0, 20099, 2, 3, 4));
        change(kit, "version", () -> kit.x.version(1, 10099, 4, 5, 6));
        change(kit, "need", () -> kit.ahead(0, 20099, "b"));
        change(kit, "ban", () -> kit.ban(1, 10099, "a 1.0"));
        change(kit, "provide", () -> kit.x.provide(1, 10099, 0, 30099));
        change(kit, "option", () -> kit.option(1, 10099, "a"));
        change(kit, "wish", () -> kit.wish("a|b"));
        change(kit, "wish", () -> kit.wish("b#"));
        change(kit, "mirror", kit.x::mirror);
        change(kit, "offer", () -> kit.x.offer(0, 0, 20099, 4));
        change(kit, "offer", () -> kit.x.offer(0, 1, 10099, 7));
        change(kit, "solve", () -> kit.x.solve(false));
        change(kit, "install that fails", kit.x::install);
        change(kit, "offer", () -> kit.x.offer(0, 1, 10099, 6));
        change(kit, "fails", () -> kit.x.fails(1, 10099, true));
        change(kit, "install that fails", kit.x::install);
        change(kit, "fails not", () -> kit.x.fails(1, 10099, false));
        change(kit, "install", kit.x::install);
        change(kit, "hold", () -> kit.x.hold(0, true));
        change(kit, "pin", () -> kit.pin(0, "1.0"));
        change(kit, "solve with none", () -> kit.x.solve(true));
        change(kit, "no pin", () -> kit.pin(0, ""));
        change(kit, "lock", () -> kit.x.lock(2));
        change(kit, "unwish", () -> kit.x.unwish(0));
        change(kit, "quota", () -> kit.x.quota(77));
        change(kit, "backTo", () -> kit.x.backTo(-1));
        change(kit, "mergeLocks", () -> kit.x.mergeLocks(1, 2));
        change(kit, "root", () -> kit.x.root(2));
        change(kit, "takeLock", () -> kit.x.takeLock(2));
        change(kit, "install", kit.x::install);
        change(kit, "root", () -> kit.x.root(0));
        change(kit, "hold not", () -> kit.x.hold(0, false));
        change(kit, "the same root", () -> kit.x.root(0));
        change(kit, "the same quota", () -> kit.x.quota(77));
    }

    private static void undoneVersions() {
        Kit kit = Kit.of(2).full(0, 10099, 1, 1, 1).full(0, 30099, 2, 2, 2);
        kit.full(0, 20099, 4, 4, 4);
        kit.need(0, 20099, "b");
        kit.x.fails(0, 20099, true);
        Kit.same("three", kit.row(3, k -> kit.x.versionAt(0, k)), "10099 20099 30099");
        kit.x.undo();
        kit.x.undo();
        kit.x.undo();
        Kit.same("two", kit.row(2, k -> kit.x.versionAt(0, k)), "10099 30099");
        kit.index("no third", () -> kit.x.versionAt(0, 2));
        kit.full(1, 20099, 8, 8, 8);
        kit.wish("a 3.0");
        kit.x.solve(false);
        Kit.same("of the other package", kit.x.versionAt(1, 0), 20099);
        kit.x.lock(0);
        kit.wish("b");
        kit.x.solve(false);
        kit.x.lock(1);
        Kit.same("its change alone", kit.x.lockDiffers(0, 1), 1);
        Kit.same("without need and failing script", kit.x.install(), 2);
        Kit.same("its file and size", kit.x.owner(3) + " " + kit.x.owner(2) + " " + kit.x.size(),
                "1 -1 10");
        kit.x.mirror();
        Kit.same("an offer", kit.x.offer(0, 0, 10099, 1), 1);
        Kit.same("and another one", kit.x.offer(0, 0, 30099, 9), 2);
        kit.x.undo();
        kit.x.undo();
        Kit.same("undone", kit.x.offer(0, 1, 20099, 8), 1);
    }

    private static void noChanges() {
        Kit kit = Kit.of(2).v(0, 10099).v(1, 10099);
        kit.wish("a");
        kit.install();
        kit.x.undo();
        int undoable = kit.x.count(7);
        String before = kit.all();
        Kit.same("questions change nothing", kit.all(), before);
        kit.inRange(0, "1.0");
        kit.tape("x");
        kit.x.clearTape();
        kit.x.errorPosition();
        kit.x.isSound();
        kit.x.errors();
        Kit.same("no change came", kit.x.count(7), undoable);
    }

    private static void checksum() {
        Kit kit = Kit.of(2);
        Kit.same("nothing", kit.x.checksum(), ((((17 * 31 - 1) * 31 - 1) * 31) - 1) * 31 - 1);
        kit.v(0, 10099).v(1, 20099, 999999);
        kit.option(0, 10099, "b 2.0");
        kit.wish("a#");
        kit.wish("b");
        kit.x.solve(false);
        int sum = 17;
        sum = 31 * (31 * sum + 1010099) - 1;
        sum = 31 * (31 * sum + 20099) - 1;
        Kit.same("goal", kit.x.checksum(), sum);
        kit.x.install();
        kit.x.backTo(-1);
        sum = 17;
        sum = 31 * (31 * sum - 1) + 1010099;
        sum = 31 * (31 * sum - 1) + 20099;
        Kit.same("installed", kit.x.checksum(), sum);
        for (int p = 2; p < 12; p++) {
            kit.x.pack();
            sum = 31 * (31 * sum - 1) - 1;
        }
        Kit.same("wraps", kit.x.checksum(), sum);
    }

    private static void isSound() {
        Kit kit = Kit.of(3).v(0, 10099).v(1, 10099).v(2, 10099);
        Kit.same("nothing", kit.x.isSound(), true);
        kit.need(0, 10099, "b");
        kit.wish("a");
        kit.install();
        kit.x.root(1);
        kit.ban(2, 10099, "a");
        kit.v(0, 20099);
        Kit.same("in all roots", kit.x.isSound(), true);
    }

    private static void errors() {
        Kit kit = new Kit();
        Kit.same("nothing", kit.x.errors(), 0);
        kit = Kit.of(3).v(0, 10099, 20099).v(1, 10099, 20099).v(2, 10099);
        kit.need(0, 20099, "b 1.0");
        kit.wish("a");
        kit.wish("b");
        Kit.same("sets that fit", kit.x.errors(), 0);
        kit.install();
        kit.wish("b 2.0|c");
        Kit.same("another one", kit.x.errors(), 0);
        kit.pin(0, "2.0");
        kit.pin(2, "2.0");
        Kit.same("none fits", kit.x.solve(false), -1);
        Kit.same("core", kit.x.core() > 0 && kit.x.proof() > 0, true);
        Kit.same("none fits", kit.x.errors(), 0);
    }

    private static void meanSize() {
        Kit kit = Kit.of(3).full(0, 10099, 0, 10, 0).full(1, 10099, 0, 5, 0).full(2, 99, 0, 1, 0);
        Kit.same("nothing", kit.x.meanSize(), 0.0);
        kit.wish("a");
        kit.wish("b");
        kit.install();
        Kit.same("two", kit.x.meanSize(), 7.5);
        kit.wish("c");
        kit.install();
        Kit.same("three", kit.x.meanSize(), 16.0 / 3.0);
        kit.x.root(2);
        Kit.same("none", kit.x.meanSize(), 0.0);
    }

    private static void share() {
        Kit kit = Kit.of(1).full(0, 10099, 0, 10, 0);
        Kit.same("nothing", kit.x.share(), 0.0f);
        kit.wish("a");
        kit.install();
        Kit.same("of 40000", kit.x.share(), 10f / 40000f);
        kit.x.quota(3);
        Kit.same("above 1", kit.x.share(), 10f / 3f);
        kit.x.quota(0);
        Kit.same("of 0", kit.x.share(), 0.0f);
    }
}
