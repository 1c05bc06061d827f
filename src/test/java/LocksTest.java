/** Promises 34 to 42: locks and mirrors. */
public final class LocksTest {
    private static final int MIN = Integer.MIN_VALUE;
    private static final int MAX = Integer.MAX_VALUE;

    public static void main(String[] args) {
        lock();
        lockDiffers();
        mergeLocks();
        mergedOptions();
        takeLock();
        locksOfRoots();
        mirror();
        offer();
        sumWrong();
        turns();
        fetches();
        fetchAt();
        Kit.end("LocksTest");
    }

    private static Kit solved(String... wishes) {
        Kit kit = Kit.of(3).v(0, 10099, 20099).v(1, 10099, 20099).v(2, 10099);
        solve(kit, wishes);
        return kit;
    }

    private static void solve(Kit kit, String... wishes) {
        for (int w = 0; w < kit.x.count(3) + 8; w++) {
            int wish = w;
            Kit.answer(() -> kit.x.unwish(wish));
        }
        for (String wish : wishes) {
            kit.wish(wish);
        }
        kit.x.solve(false);
    }

    private static void lock() {
        Kit kit = solved("a", "b 1.0");
        Kit.same("lock", kit.x.lock(0), 2);
        Kit.same("lock", kit.x.lock(2), 2);
        for (int lock : new int[] {-1, 3, MIN, MAX}) {
            kit.argument("lock", () -> kit.x.lock(lock));
            kit.argument("takeLock", () -> kit.x.takeLock(lock));
            kit.argument("lockDiffers", () -> kit.x.lockDiffers(lock, 0));
            kit.argument("lockDiffers", () -> kit.x.lockDiffers(0, lock));
            kit.argument("mergeLocks", () -> kit.x.mergeLocks(lock, 0));
            kit.argument("mergeLocks", () -> kit.x.mergeLocks(0, lock));
        }
        kit.x.backTo(-1);
        Kit.same("nothing", kit.x.lock(0), 0);
        Kit.same("take the other one", kit.x.takeLock(2), 1);
        Kit.same("it is as it was", kit.goal(), "20099 10099 -");
    }

    private static void lockDiffers() {
        Kit kit = solved("a", "b 1.0");
        kit.x.lock(0);
        Kit.same("from an empty one", kit.x.lockDiffers(0, 1), 2);
        Kit.same("from itself", kit.x.lockDiffers(0, 0), 0);
        solve(kit, "a", "b", "c");
        kit.x.lock(1);
        Kit.same("a version and one more", kit.x.lockDiffers(0, 1), 2);
        Kit.same("the other way round", kit.x.lockDiffers(1, 0), 2);
        kit.option(0, 20099, "a");
        solve(kit, "a#", "b", "c");
        kit.x.lock(2);
        Kit.same("an option", kit.x.lockDiffers(2, 1), 1);
        int undoable = kit.x.count(7);
        kit.x.lockDiffers(2, 1);
        Kit.same("is a question", kit.x.count(7), undoable);
    }

    private static void mergeLocks() {
        Kit kit = solved("a 1.0", "b");
        kit.x.lock(0);
        solve(kit, "a 2.0", "c");
        kit.x.lock(1);
        Kit.same("fits", kit.x.mergeLocks(0, 1), 1);
        Kit.same("the newer one, and those in one alone", kit.goal(), "20099 20099 10099");
        kit.x.backTo(-1);
        Kit.same("the other way round", kit.x.mergeLocks(1, 0), 1);
        Kit.same("is the same", kit.goal(), "20099 20099 10099");
        Kit.same("with itself", kit.x.mergeLocks(0, 0), 0);
        Kit.same("is itself, which does not fit", kit.goal(), "10099 20099 -");
        kit.ban(0, 20099, "b");
        Kit.same("does not fit", kit.x.mergeLocks(0, 1), 0);
        Kit.same("all the same", kit.goal(), "20099 20099 10099");
        kit.state("not sound", kit.x::install);
        Kit.same("two empty ones", kit.x.mergeLocks(2, 2), 0);
        Kit.same("no a", kit.goal(), "- - -");
    }

    private static void mergedOptions() {
        Kit kit = solved();
        kit.option(0, 10099, "a");
        kit.option(0, 20099, "a");
        solve(kit, "a# 1.0");
        kit.x.lock(0);
        solve(kit, "a 2.0");
        kit.x.lock(1);
        kit.x.mergeLocks(0, 1);
        Kit.same("on in one with another version", kit.goal(), "20099 - -");
        solve(kit, "a 1.0");
        kit.x.lock(1);
        kit.x.mergeLocks(0, 1);
        Kit.same("on in one with this version", kit.goal(), "10099+ - -");
        kit.x.mergeLocks(1, 0);
        Kit.same("on in the other one", kit.goal(), "10099+ - -");
        kit.x.mergeLocks(1, 2);
        Kit.same("off", kit.goal(), "10099 - -");
        kit.x.mergeLocks(2, 0);
        Kit.same("in one alone", kit.goal(), "10099+ - -");
    }

    private static void takeLock() {
        Kit kit = solved("a", "b");
        kit.x.lock(1);
        kit.x.backTo(-1);
        Kit.same("fits", kit.x.takeLock(1), 1);
        Kit.same("goal", kit.goal(), "20099 20099 -");
        kit.wish("c");
        Kit.same("does not fit", kit.x.takeLock(1), 0);
        Kit.same("goal", kit.goal(), "20099 20099 -");
        Kit.same("sound all the same", kit.x.install(), 2);
        Kit.same("an empty one", kit.x.takeLock(0), 0);
        Kit.same("goal", kit.goal(), "- - -");
    }

    private static void locksOfRoots() {
        Kit kit = solved("a", "b");
        kit.x.lock(1);
        kit.x.root(1);
        kit.wish("c");
        Kit.same("locks are common to all", kit.x.takeLock(1), 0);
        Kit.same("goal", kit.goal(), "20099 20099 -");
        kit.x.undo();
        kit.x.undo();
        kit.x.undo();
        kit.x.undo();
        Kit.same("undone, too", kit.x.lockDiffers(0, 1), 0);
    }

    private static void mirror() {
        Kit kit = new Kit();
        for (int m = 0; m < 3; m++) {
            Kit.same("mirror", kit.x.mirror(), m);
            Kit.same("count", kit.x.count(2), m + 1);
            Kit.same("none wrong", kit.x.sumWrong(m), 0);
        }
        kit.state("a fourth", kit.x::mirror);
    }

    private static void offer() {
        Kit kit = Kit.of(2).full(0, 10099, 0, 0, MIN).v(1, 10099);
        kit.index("no mirror", () -> kit.x.offer(0, 0, 10099, 0));
        kit.x.mirror();
        kit.x.mirror();
        Kit.same("offer", kit.x.offer(1, 0, 10099, 0), 1);
        Kit.same("in place of it", kit.x.offer(1, 0, 10099, MIN), 1);
        Kit.same("another one", kit.x.offer(1, 1, 10099, MAX), 2);
        Kit.same("another mirror", kit.x.offer(0, 1, 10099, 7), 1);
        for (int number : new int[] {-1, 2, MIN, MAX}) {
            kit.index("no mirror", () -> kit.x.offer(number, 0, 10099, 0));
            kit.index("no package", () -> kit.x.offer(0, number, 10099, 0));
            kit.index("no mirror", () -> kit.x.sumWrong(number));
        }
        kit.index("no version", () -> kit.x.offer(0, 0, 20099, 0));
        kit.wish("a");
        Kit.same("the latter sum counts", kit.install(), 1);
        Kit.same("nothing was wrong", kit.x.sumWrong(1), 0);
    }

    private static void sumWrong() {
        Kit kit = Kit.of(2).full(0, 10099, 0, 0, 5).full(1, 10099, 0, 0, 6);
        kit.x.mirror();
        kit.x.mirror();
        kit.x.offer(0, 0, 10099, 4);
        kit.x.offer(1, 0, 10099, 5);
        kit.x.offer(0, 1, 10099, 3);
        kit.wish("a");
        kit.wish("b");
        kit.x.solve(false);
        kit.x.fetchAt(0, true);
        Kit.same("a question does not count", kit.x.sumWrong(0), 0);
        Kit.same("b is offered wrongly alone", kit.x.install(), -1);
        Kit.same("by fetch, ahead of the steps", kit.failure(), "1 1 -1");
        Kit.same("twice wrong, and counted", kit.x.sumWrong(0), 2);
        Kit.same("never asked wrongly", kit.x.sumWrong(1), 0);
        Kit.same("a was fetched, and is counted", kit.x.count(6), 1);
        Kit.same("but is not installed", kit.installed(), "-1 -1");
        kit.x.undo();
        Kit.same("but for an undo", kit.x.sumWrong(0) + kit.x.count(6), 0);
    }

    private static void turns() {
        Kit kit = Kit.of(5);
        for (int m = 0; m < 3; m++) {
            kit.x.mirror();
        }
        for (int p = 0; p < 5; p++) {
            kit.full(p, 10099, 0, 0, p);
            for (int m = 0; m < 3; m++) {
                kit.x.offer(m, p, 10099, p == 3 && m < 2 ? 9 : p);
            }
            kit.wish("" + (char) ('a' + p));
        }
        kit.x.solve(false);
        Kit.same("mirrors by turns", kit.fetched(), "0:0 1:1 2:2 3:2 4:1");
        kit.x.install();
        Kit.same("wrong ones", kit.row(3, kit.x::sumWrong), "1 1 0");
        Kit.same("fetches", kit.x.count(6), 5);
        kit.x.root(1);
        kit.wish("b");
        kit.x.solve(false);
        Kit.same("fetches of all roots count", kit.fetched(), "1:2");
        kit.x.install();
        Kit.same("fetches", kit.x.count(6), 6);
    }

    private static void fetches() {
        Kit kit = Kit.of(4).v(0, 10099, 20099).v(1, 10099).v(2, 10099).v(3, 10099);
        kit.option(1, 10099, "b");
        kit.wish("a");
        kit.wish("b");
        kit.pin(0, "1.0");
        kit.install();
        Kit.same("none", kit.x.fetches(), 0);
        kit.pin(0, "2.0");
        kit.wish("b#");
        kit.wish("c");
        kit.x.solve(false);
        Kit.same("another version, and one that comes", kit.x.fetches(), 2);
        kit.x.backTo(-1);
        Kit.same("none comes", kit.x.fetches(), 0);
        kit.ahead(2, 10099, "d");
        kit.ahead(3, 10099, "c");
        kit.x.solve(false);
        Kit.same("no order", kit.x.fetches(), -1);
        kit.element("no order, no place", () -> kit.x.fetchAt(-1, false));
    }

    private static void fetchAt() {
        Kit kit = Kit.of(4);
        for (int p = 0; p < 4; p++) {
            kit.full(p, 10099, 0, 0, p);
        }
        kit.ahead(0, 10099, "d");
        kit.ahead(2, 10099, "a");
        for (int p = 0; p < 3; p++) {
            kit.wish("" + (char) ('a' + p));
        }
        kit.x.solve(false);
        Kit.same("in the order of scripts, no mirrors", kit.fetched(), "1:-1 3:-1 0:-1 2:-1");
        kit.x.mirror();
        Kit.same("none offers", kit.fetched(), "1:-1 3:-1 0:-1 2:-1");
        kit.x.mirror();
        for (int m = 0; m < 2; m++) {
            kit.x.offer(m, 0, 10099, 0);
            kit.x.offer(m, 1, 10099, 1);
            kit.x.offer(m, 2, 10099, 2);
        }
        Kit.same("d is as if left out", kit.fetched(), "1:0 3:-1 0:1 2:0");
        for (int place : new int[] {-1, 4, MIN, MAX}) {
            kit.index("no place", () -> kit.x.fetchAt(place, false));
            kit.index("no place", () -> kit.x.fetchAt(place, true));
        }
        Kit.same("fails at d", kit.x.install(), -1);
        Kit.same("by fetch", kit.failure(), "1 3 -1");
        Kit.same("b was fetched", kit.x.count(6), 1);
        Kit.same("so the next ones move", kit.fetched(), "1:1 3:-1 0:0 2:1");
    }
}
