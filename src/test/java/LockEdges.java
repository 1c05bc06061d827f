import java.util.NoSuchElementException;

/** Edges of the sections 8 and 10 and of the promises 34 to 42: locks and mirrors. */
final class LockEdges {
    private static final int MIN = Integer.MIN_VALUE;
    private static final int MAX = Integer.MAX_VALUE;
    private static final Class<IllegalStateException> STATE = IllegalStateException.class;
    private static final Class<IllegalArgumentException> ARGUMENT = IllegalArgumentException.class;
    private static final Class<IndexOutOfBoundsException> INDEX = IndexOutOfBoundsException.class;
    private static final Class<NoSuchElementException> ELEMENT = NoSuchElementException.class;

    private LockEdges() {}

    static void all() {
        mirrors();
        turns();
        askedMirrors();
        noMirror();
        threeLocks();
        merging();
        mergedOption();
        lock();
        lockDiffers();
        mergeLocks();
        takeLock();
        mirror();
        offer();
        sumWrong();
        fetches();
        fetchAt();
        fetchAtRefused();
    }

    private static String letter(int pack) {
        return "" + (char) ('a' + pack);
    }

    /** So many packages with sum 5 each, and mirrors, all of them in the goal; none is offered. */
    private static Kit fetching(int packs, int mirrors) {
        Kit kit = Kit.of(packs);
        for (int p = 0; p < packs; p++) {
            kit.full(p, 10099, 0, 0, 5);
            if (p > 0) {
                kit.need(p - 1, 10099, letter(p));
            }
        }
        kit.wish("a");
        kit.x.solve(false);
        for (int m = 0; m < mirrors; m++) {
            kit.x.mirror();
        }
        return kit;
    }

    private static Kit offered(Kit kit, int mirror, int sum) {
        for (int p = 0; p < kit.x.count(0); p++) {
            kit.x.offer(mirror, p, 10099, sum);
        }
        return kit;
    }

    private static String mirrors(Kit kit) {
        return kit.row(kit.x.fetches(), place -> kit.x.fetchAt(place, true));
    }

    private static String wrong(Kit kit) {
        return kit.row(kit.x.count(2), kit.x::sumWrong);
    }

    // ---- Section 8

    private static void mirrors() {
        Edge.of("8", "There are at most 3 mirrors, numbered from 0 as they come.").holds(() -> {
            Kit kit = new Kit();
            for (int m = 0; m < 3; m++) {
                Kit.same("mirror", kit.x.mirror(), m);
            }
            kit.unread("a 4th", STATE, kit.x::mirror);
            kit.x.root(1);
            kit.unread("a 4th in another root", STATE, kit.x::mirror);
        });
        Edge.of("8", "A mirror can offer a version with a sum;", "it is right if this is the sum of the version.").holds(() -> {
            for (int sum : new int[] {0, 1, -1, MAX, MIN}) {
                Kit kit = Kit.of(1).full(0, 10099, 0, 0, sum);
                kit.wish("a");
                kit.x.solve(false);
                kit.x.mirror();
                Kit.same("not offered", mirrors(kit), "-1");
                for (int other : new int[] {sum + 1, sum - 1, sum ^ MIN, ~sum}) {
                    kit.x.offer(0, 0, 10099, other);
                    Kit.same("another sum", mirrors(kit), "-1");
                }
                kit.x.offer(0, 0, 10099, sum);
                Kit.same("its sum", mirrors(kit), "0");
            }
        });
    }

    private static void turns() {
        Edge.of("8", "first the one with the number that is left of the fetches so far (of all roots, those "
                + "that succeeded) by the number of mirrors,").holds(() -> {
            for (int mirrors = 1; mirrors <= 3; mirrors++) {
                Kit kit = fetching(7, mirrors);
                StringBuilder due = new StringBuilder();
                for (int m = 0; m < mirrors; m++) {
                    offered(kit, m, 5);
                }
                for (int place = 0; place < 7; place++) {
                    due.append(place > 0 ? " " : "").append(place % mirrors);
                }
                Kit.same("of " + mirrors, mirrors(kit), due.toString());
            }
            Kit kit = offered(offered(fetching(1, 2), 0, 5), 1, 5);
            kit.x.install();
            kit.x.root(1);
            kit.wish("a");
            kit.x.solve(false);
            Kit.same("behind one of another root", mirrors(kit), "1");
            kit.x.mirror();
            Kit.same("by three", mirrors(kit), "1");
            kit.x.install();
            kit.x.root(2);
            kit.wish("a");
            kit.x.solve(false);
            kit.x.offer(2, 0, 10099, 5);
            Kit.same("behind two", mirrors(kit), "2");
            kit.x.offer(2, 0, 10099, 6);
            kit.x.offer(1, 0, 10099, 6);
            kit.x.offer(0, 0, 10099, 6);
            Kit.same("fails", kit.x.install(), -1);
            Kit.same("one that fails does not count", kit.x.count(6), 2);
        });
        Edge.of("8", "then the next ones, and behind the last one the mirror 0, each once,").holds(() -> {
            Kit kit = fetching(3, 3);
            offered(kit, 0, 6);
            offered(kit, 1, 5);
            offered(kit, 2, 7);
            Kit.same("0 then 1; 1; 2 then 0 then 1", mirrors(kit), "1 1 1");
            kit.x.install();
            Kit.same("wrong ones", wrong(kit), "2 0 1");
            Kit all = offered(offered(offered(fetching(1, 3), 0, 6), 1, 7), 2, 8);
            all.x.install();
            Kit.same("each once", wrong(all), "1 1 1");
        });
    }

    private static void askedMirrors() {
        Edge.of("8", "until one offers it rightly;").holds(() -> {
            Kit kit = offered(offered(offered(fetching(1, 3), 0, 5), 1, 6), 2, 6);
            Kit.same("the first one", mirrors(kit), "0");
            kit.x.install();
            Kit.same("no other one was asked", wrong(kit), "0 0 0");
            Kit second = offered(offered(offered(fetching(1, 3), 0, 6), 1, 5), 2, 6);
            second.x.install();
            Kit.same("the last one was not asked", wrong(second), "1 0 0");
        });
        Edge.of("8", "each one that offers it with another sum is counted as wrong once more.").holds(() -> {
            Kit kit = offered(fetching(1, 3), 1, 6);
            for (int k = 1; k <= 3; k++) {
                kit.x.install();
                Kit.same("that which offers it", wrong(kit), "0 " + k + " 0");
            }
            offered(kit, 1, 5);
            kit.x.install();
            Kit.same("rightly", wrong(kit), "0 3 0");
            kit.x.install();
            Kit.same("not asked", wrong(kit), "0 3 0");
        });
        Edge.of("8", "If none offers it rightly, the fetch fails.").holds(() -> {
            Kit kit = fetching(2, 2);
            Kit.same("none at all", kit.x.install(), -1);
            Kit.same("at a", kit.failure(), "1 0 -1");
            kit.x.offer(1, 0, 10099, 5);
            kit.x.offer(0, 1, 10099, 4);
            kit.x.offer(1, 1, 10099, 6);
            Kit.same("b wrongly", kit.x.install(), -1);
            Kit.same("at b", kit.failure(), "1 1 -1");
            kit.x.offer(1, 1, 10099, 5);
            Kit.same("rightly", kit.x.install(), 2);
        });
    }

    private static void noMirror() {
        Edge.of("8", "Without mirrors nothing is fetched.").holds(() -> {
            Kit kit = fetching(2, 0);
            Kit.same("mirrors", mirrors(kit), "-1 -1");
            Kit.same("installs all the same", kit.x.install(), 2);
            Kit.same("fetches", kit.x.count(6), 0);
            Kit one = fetching(1, 1);
            Kit.same("but with one that offers nothing", one.x.install(), -1);
        });
    }

    // ---- Section 10

    private static void threeLocks() {
        Edge.of("10", "There are three locks, 0 to 2, each a set, at first empty.").holds(() -> {
            for (int lock = 0; lock < 3; lock++) {
                Kit kit = fetching(2, 0);
                Kit.same("at first", kit.x.lockDiffers(lock, 0) + kit.x.lockDiffers(2, lock), 0);
                Kit.same("two", kit.x.lock(lock), 2);
                for (int other = 0; other < 3; other++) {
                    Kit.same("the others are empty", kit.x.lockDiffers(lock, other),
                            other == lock ? 0 : 2);
                }
                kit.outside("lock", 0, 2, ARGUMENT, kit.x::lock);
                kit.x.takeLock((lock + 1) % 3);
                Kit.same("empty", kit.goal(), "- -");
                Kit.same("keeps nothing", kit.x.lock(lock), 0);
            }
        });
    }

    /** Locks 0 and 1 that have these versions of a (0 for none). */
    private static Kit twoLocks(int first, int second) {
        Kit kit = Kit.of(1).v(0, 10099, 20098, 20099);
        int[] codes = {first, second};
        for (int lock = 0; lock < 2; lock++) {
            if (codes[lock] != 0) {
                int trial = codes[lock] % 100;
                String text = "a " + codes[lock] / 10000 + ".0" + (trial == 99 ? "" : "!" + trial);
                int wish = kit.wish(text);
                kit.x.solve(false);
                kit.x.lock(lock);
                kit.x.unwish(wish);
            }
        }
        return kit;
    }

    private static void merging() {
        int[] codes = {0, 10099, 20098, 20099};
        Edge.of("10", "of each package that has the same version in both, this;").holds(() -> {
            for (int code : codes) {
                Kit kit = twoLocks(code, code);
                kit.x.mergeLocks(0, 1);
                Kit.same("the same", kit.x.versionOf(0), code == 0 ? -1 : code);
            }
        });
        Edge.of("10", "that has a version in one alone, this;").holds(() -> {
            for (int code : codes) {
                for (int way = 0; way < 2; way++) {
                    Kit kit = twoLocks(way == 0 ? code : 0, way == 0 ? 0 : code);
                    kit.x.mergeLocks(0, 1);
                    Kit.same("in one alone", kit.x.versionOf(0), code == 0 ? -1 : code);
                }
            }
        });
        Edge.of("10", "otherwise the newer one.").holds(() -> {
            for (int k = 1; k < 4; k++) {
                for (int m = 1; m < 4; m++) {
                    Kit kit = twoLocks(codes[k], codes[m]);
                    kit.x.mergeLocks(0, 1);
                    Kit.same(codes[k] + " and " + codes[m], kit.x.versionOf(0), codes[Math.max(k, m)]);
                }
            }
        });
    }

    private static void mergedOption() {
        Edge.of("10", "The option is on if it is on in a lock that has this version.").holds(() -> {
            String[] wishes = {"a 1.0", "a# 1.0", "a 2.0", "a# 2.0"};
            for (String wish : wishes) {
                for (String other : wishes) {
                    Kit kit = Kit.of(1).v(0, 10099, 20099);
                    kit.option(0, 10099, "a");
                    kit.option(0, 20099, "a");
                    kit.wish(wish);
                    kit.x.solve(false);
                    kit.x.lock(0);
                    kit.x.unwish(0);
                    kit.wish(other);
                    kit.x.solve(false);
                    kit.x.lock(1);
                    kit.x.mergeLocks(0, 1);
                    boolean isNew = wish.endsWith("2.0") || other.endsWith("2.0");
                    String on = isNew ? "a# 2.0" : "a# 1.0";
                    Kit.same(wish + " and " + other, kit.goal(), (isNew ? "20099" : "10099")
                            + (wish.equals(on) || other.equals(on) ? "+" : ""));
                }
            }
        });
    }

    // ---- Promises 34 to 37

    private static void lock() {
        Edge.of("P34", "- `lock`: 0 to 2", "Throws `IllegalArgumentException` if lock is out of range")
                .holds(() -> {
            Kit kit = fetching(1, 0);
            for (int lock = 0; lock < 3; lock++) {
                kit.outside("lock", 0, 2, ARGUMENT, kit.x::lock);
                Kit.same("lock", kit.x.lock(lock), 1);
            }
        });
        Edge.of("P34", "Returns the number of packages of the lock.").holds(() -> {
            Kit none = new Kit();
            Kit.same("nothing", none.x.lock(0), 0);
            for (int packs = 1; packs <= 12; packs++) {
                Kit kit = fetching(packs, 0);
                kit.option(0, 10099, "a");
                kit.wish("a#");
                kit.x.solve(false);
                Kit.same("packages, not options", kit.x.lock(2), packs);
            }
        });
    }

    private static void lockDiffers() {
        Edge.of("P35", "- `lock`: 0 to 2", "- `other`: 0 to 2",
                "Throws `IllegalArgumentException` if lock or other is out of range").holds(() -> {
            Kit kit = fetching(1, 0);
            for (int k = 0; k < 3; k++) {
                int lock = k;
                Kit.same("itself", kit.x.lockDiffers(lock, lock), 0);
                kit.outside("lock", 0, 2, ARGUMENT, number -> kit.x.lockDiffers(number, lock));
                kit.outside("other", 0, 2, ARGUMENT, number -> kit.x.lockDiffers(lock, number));
                kit.outside("both", 0, 2, ARGUMENT, number -> kit.x.lockDiffers(number, number));
            }
        });
        Edge.of("P35", "Returns how many there are.").holds(() -> {
            Kit kit = fetching(12, 0);
            kit.x.lock(1);
            Kit.same("all", kit.x.lockDiffers(0, 1), 12);
            Kit.same("all", kit.x.lockDiffers(1, 2), 12);
            kit.x.lock(0);
            Kit.same("none", kit.x.lockDiffers(0, 1), 0);
        });
    }

    private static void mergeLocks() {
        Edge.of("P36", "- `lock`: 0 to 2", "Throws `IllegalArgumentException` if lock or other is out of range")
                .holds(() -> {
            Kit kit = fetching(1, 0);
            kit.x.backTo(-1);
            for (int k = 0; k < 3; k++) {
                int lock = k;
                kit.outside("lock", 0, 2, ARGUMENT, number -> kit.x.mergeLocks(number, lock));
                kit.outside("other", 0, 2, ARGUMENT, number -> kit.x.mergeLocks(lock, number));
            }
        });
        Edge.of("P36", "- `other`: 0 to 2, perhaps the same").holds(() -> {
            for (int lock = 0; lock < 3; lock++) {
                Kit kit = fetching(2, 0);
                kit.x.lock(lock);
                kit.x.backTo(-1);
                Kit.same("with itself", kit.x.mergeLocks(lock, lock), 1);
                Kit.same("goal", kit.goal(), "10099 10099");
            }
        });
        Edge.of("P36", "Returns 1 if the goal fits the root at hand then, otherwise 0.").holds(() -> {
            Kit kit = fetching(2, 0);
            kit.x.lock(0);
            Kit.same("fits", kit.x.mergeLocks(0, 1), 1);
            Kit.same("the empty set does not", kit.x.mergeLocks(1, 2), 0);
            Kit.same("but is the goal", kit.goal(), "- -");
            kit.x.root(2);
            Kit.same("it fits this root", kit.x.mergeLocks(1, 2), 1);
            kit.x.hold(1, true);
            Kit.same("b is held", kit.x.mergeLocks(2, 0), 0);
            kit.x.hold(1, false);
            kit.pin(0, "7.0");
            Kit.same("a is pinned", kit.x.mergeLocks(2, 0), 0);
            kit.pin(0, "1.0");
            kit.need(1, 10099, "a 7.0");
            Kit.same("it is not sound", kit.x.mergeLocks(2, 0), 0);
        });
    }

    private static void takeLock() {
        Edge.of("P37", "- `lock`: 0 to 2", "Throws `IllegalArgumentException` if lock is out of range")
                .holds(() -> {
            Kit kit = fetching(1, 0);
            for (int lock = 0; lock < 3; lock++) {
                kit.outside("lock", 0, 2, ARGUMENT, kit.x::takeLock);
                kit.x.lock(lock);
                kit.x.backTo(-1);
                Kit.same("takeLock", kit.x.takeLock(lock), 1);
            }
        });
        Edge.of("P37", "Returns 1 if the goal fits the root at hand then, otherwise 0.").holds(() -> {
            Kit kit = fetching(1, 0);
            kit.x.lock(1);
            Kit.same("the empty set does not", kit.x.takeLock(0), 0);
            Kit.same("but is the goal", kit.goal(), "-");
            Kit.same("fits", kit.x.takeLock(1), 1);
            kit.x.root(1);
            kit.x.hold(0, true);
            Kit.same("not this root", kit.x.takeLock(1), 0);
            Kit.same("fits this root", kit.x.takeLock(0), 1);
        });
    }

    // ---- Promises 38 to 42

    private static void mirror() {
        Edge.of("P38", "Returns its number.").holds(() -> {
            Kit kit = new Kit();
            Kit.same("first", kit.x.mirror(), 0);
            Kit.same("second", kit.x.mirror(), 1);
            kit.x.undo();
            Kit.same("second again", kit.x.mirror(), 1);
            Kit.same("third", kit.x.mirror(), 2);
        });
        Edge.of("P38", "Throws `IllegalStateException` if there are 3").holds(() -> {
            Kit kit = new Kit();
            kit.x.mirror();
            kit.x.mirror();
            Kit.same("the last", kit.x.mirror(), 2);
            kit.unread("a 4th", STATE, kit.x::mirror);
            kit.x.undo();
            Kit.same("the last again", kit.x.mirror(), 2);
        });
    }

    private static void offer() {
        Edge.of("P39", "- `mirror`: number of a mirror", "- `pack`: number of a package",
                "- `code`: code of a version of it",
                "Throws `IndexOutOfBoundsException` if there is no such mirror, package or version")
                .holds(() -> {
            Kit kit = Kit.of(2).v(0, 10099).v(1, 20099);
            for (int m = 0; m <= 3; m++) {
                kit.outside("mirror", 0, m - 1, INDEX, mirror -> kit.x.offer(mirror, 0, 10099, 0));
                if (m < 3) {
                    kit.x.mirror();
                }
            }
            kit.noPackage("offer", pack -> kit.x.offer(0, pack, 10099, 0));
            for (int code : new int[] {20099, 10098, 0, -1, MIN, MAX}) {
                kit.unread("code " + code, INDEX, () -> kit.x.offer(0, 0, code, 0));
            }
            Kit.same("none was offered", kit.x.offer(0, 1, 20099, 0), 1);
        });
        Edge.of("P39", "- `sum`: any number").holds(() -> {
            Kit kit = Kit.of(1);
            kit.x.mirror();
            int[] sums = {MIN, -1, 0, 1, MAX};
            for (int k = 0; k < sums.length; k++) {
                kit.full(0, 10099 + 100 * k, 0, 0, sums[k]);
                Kit.same("sum " + sums[k], kit.x.offer(0, 0, 10099 + 100 * k, sums[k]), k + 1);
                kit.wish("a 1." + k);
                kit.x.solve(false);
                kit.x.unwish(k);
                Kit.same("is right", mirrors(kit), "0");
            }
        });
        Edge.of("P39", "Returns how many versions it offers afterwards.").holds(() -> {
            Kit kit = Kit.of(5);
            kit.x.mirror();
            kit.x.mirror();
            for (int k = 0; k < 40; k++) {
                kit.v(k / 8, 99 + 100 * k);
                Kit.same("all that are there", kit.x.offer(1, k / 8, 99 + 100 * k, k), k + 1);
            }
            Kit.same("another mirror", kit.x.offer(0, 4, 3999, 0), 1);
        });
        Edge.of("P39", "A mirror offers a version, with a sum, in place of what it offered of it before.")
                .holds(() -> {
            Kit kit = offered(fetching(1, 1), 0, 5);
            Kit.same("right", mirrors(kit), "0");
            Kit.same("again", kit.x.offer(0, 0, 10099, 6), 1);
            Kit.same("not any more", mirrors(kit), "-1");
        });
    }

    private static void sumWrong() {
        Edge.of("P40", "- `mirror`: number of a mirror",
                "Throws `IndexOutOfBoundsException` if there is no such mirror").holds(() -> {
            Kit kit = new Kit();
            for (int m = 0; m <= 3; m++) {
                kit.outside("mirror", 0, m - 1, INDEX, kit.x::sumWrong);
                if (m < 3) {
                    kit.x.mirror();
                    Kit.same("sumWrong", kit.x.sumWrong(m), 0);
                }
            }
        });
        Edge.of("P40", "Returns how often.").holds(() -> {
            Kit kit = offered(offered(fetching(12, 2), 0, 6), 1, 5);
            Kit.same("not yet", wrong(kit), "0 0");
            kit.x.fetchAt(3, true);
            Kit.same("a question does not ask", wrong(kit), "0 0");
            kit.x.install();
            Kit.same("each second time", wrong(kit), "6 0");
            kit.x.undo();
            Kit.same("undone", wrong(kit), "0 0");
        });
    }

    /** a and b, each of them ahead of the other one. */
    private static Kit ring() {
        Kit kit = Kit.of(2).v(0, 10099).v(1, 10099);
        kit.ahead(0, 10099, "b");
        kit.ahead(1, 10099, "a");
        kit.wish("a");
        kit.x.solve(false);
        return kit;
    }

    private static void fetches() {
        Edge.of("P41", "Returns how many there are;").holds(() -> {
            Kit.same("nothing", new Kit().x.fetches(), 0);
            Kit kit = fetching(12, 0);
            Kit.same("all", kit.x.fetches(), 12);
            kit.x.install();
            Kit.same("none", kit.x.fetches(), 0);
            kit.x.backTo(-1);
            Kit.same("none that goes", kit.x.fetches(), 0);
        });
        Edge.of("P41", "NONE if the scripts of the goal have no order.").holds(() -> {
            Kit kit = ring();
            Kit.same("a ring", kit.x.fetches(), -1);
            kit.x.backTo(-1);
            Kit.same("not in the goal", kit.x.fetches(), 0);
        });
    }

    private static void fetchAt() {
        Edge.of("P42", "NONE as the mirror if there are no mirrors, or the fetch would fail (those behind it "
                + "are as if it had been left out).", "- `isMirror`: whether the mirror is asked",
                "Returns the package, or the mirror;").holds(() -> {
            Kit kit = fetching(4, 0);
            Kit.same("no mirrors", mirrors(kit), "-1 -1 -1 -1");
            kit.x.mirror();
            kit.x.mirror();
            Kit.same("they offer nothing", mirrors(kit), "-1 -1 -1 -1");
            offered(kit, 0, 5);
            offered(kit, 1, 5);
            Kit.same("by turns", mirrors(kit), "0 1 0 1");
            kit.x.offer(0, 1, 10099, 4);
            kit.x.offer(1, 1, 10099, 6);
            Kit.same("b fails, c is the second", mirrors(kit), "0 -1 1 0");
            kit.x.offer(0, 0, 10099, 4);
            kit.x.offer(1, 0, 10099, 6);
            Kit.same("a and b fail, c is the first", mirrors(kit), "-1 -1 0 1");
            Kit.same("the packages", kit.row(4, place -> kit.x.fetchAt(place, false)), "0 1 2 3");
        });
    }

    private static void fetchAtRefused() {
        Edge.of("P42", "Throws `NoSuchElementException` if the scripts of the goal have no order")
                .holds(() -> {
            Kit kit = ring();
            kit.unread("a ring", ELEMENT, () -> kit.x.fetchAt(0, false));
            kit.unread("a ring", ELEMENT, () -> kit.x.fetchAt(0, true));
            kit.outside("place", 0, 1, ELEMENT, place -> kit.x.fetchAt(place, true));
        });
        Edge.of("P42", "- `place`: 0 for the first one",
                "Throws `IndexOutOfBoundsException` if there is no such place").holds(() -> {
            for (int packs = 0; packs <= 12; packs += 3) {
                Kit kit = packs == 0 ? new Kit() : fetching(packs, 1);
                for (int place = 0; place < packs; place++) {
                    Kit.same("package", kit.x.fetchAt(place, false), place);
                }
                kit.outside("place", 0, packs - 1, INDEX, place -> kit.x.fetchAt(place, false));
                kit.outside("place", 0, packs - 1, INDEX, place -> kit.x.fetchAt(place, true));
            }
        });
    }
}
