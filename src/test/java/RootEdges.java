/** Edges of section 4 and of the promises 1 and 15 to 20: new objects, roots, wishes, pins, quotas. */
final class RootEdges {
    private static final Class<IllegalStateException> STATE = IllegalStateException.class;
    private static final Class<IllegalArgumentException> ARGUMENT = IllegalArgumentException.class;
    private static final Class<IndexOutOfBoundsException> INDEX = IndexOutOfBoundsException.class;

    private RootEdges() {}

    static void all() {
        newObject();
        threeRoots();
        wishesOfRoots();
        emptyRoots();
        common();
        fits();
        root();
        wish();
        unwish();
        hold();
        pin();
        pinRefused();
        quota();
    }

    private static void newObject() {
        Edge.of("P1", "Creates a keeper without packages and mirrors, with three empty roots and an "
                + "empty tape.").holds(() -> {
            Kit kit = new Kit();
            Kit.same("counts", kit.row(8, kit.x::count), "0 0 0 0 0 0 0 0");
            Kit.same("tape", kit.x.clearTape(), 0);
            Kit.same("error position", kit.x.errorPosition(), -1);
            Kit.same("undo", kit.x.undo(), -1);
            kit.unread("package", INDEX, () -> kit.x.versions(0));
            kit.unread("mirror", INDEX, () -> kit.x.sumWrong(0));
            for (int lock = 0; lock < 3; lock++) {
                Kit.same("lock", kit.x.takeLock(lock), 1);
                Kit.same("lock", kit.x.lockDiffers(lock, 0), 0);
            }
            for (int root = 0; root < 3; root++) {
                kit.x.root(root);
                Kit.same("root", kit.row(7, kit.x::count), "0 0 0 0 0 0 0");
                Kit.same("goal", kit.x.changes() + kit.x.scripts() + kit.x.clashes(), 0);
                Kit.same("installed", kit.x.size() + kit.x.orphans() + kit.x.plan(), 0);
                Kit.same("sets", kit.x.fitting(), 1);
                Kit.same("core and proof", kit.x.core() + kit.x.proof(), 0);
                Kit.same("failure", kit.failure(), "-1 -1 -1");
                Kit.same("fetches", kit.x.fetches(), 0);
                Kit.same("checksum", kit.x.checksum(), 17);
                Kit.same("sound", kit.x.isSound(), true);
                Kit.same("errors", kit.x.errors(), 0);
                Kit.same("mean", kit.x.meanSize(), 0.0);
                Kit.same("share", kit.x.share(), 0.0f);
                Kit.same("quota", kit.x.quota(0), 40000);
                Kit.same("solve", kit.x.solve(true) + kit.x.solve(false), 0);
                kit.unread("history", java.util.NoSuchElementException.class, () -> kit.x.backTo(0));
            }
        });
    }

    // ---- Section 4

    private static void threeRoots() {
        Edge.of("4", "There are three roots, 0 to 2, and one of them is at hand, at first 0.")
                .holds(() -> {
            for (int first = 0; first < 3; first++) {
                Kit kit = new Kit();
                Kit.same("at first", kit.x.root(first), 0);
                for (int root = 0; root < 3; root++) {
                    kit.x.root(root);
                    kit.x.quota(root);
                }
                for (int root = 0; root < 3; root++) {
                    kit.x.root(root);
                    Kit.same("of its own", kit.x.quota(9), root);
                }
                kit.outside("root", 0, 2, ARGUMENT, kit.x::root);
            }
        });
    }

    private static void wishesOfRoots() {
        Edge.of("4", "A root has wishes (needs, at most 8, numbered from 0;").holds(() -> {
            Kit kit = Kit.of(1).v(0, 10099);
            for (int root = 0; root < 3; root++) {
                kit.x.root(root);
                for (int w = 0; w < 8; w++) {
                    Kit.same("wish", kit.wish("a"), w);
                }
                kit.unread("a 9th", STATE, kit.x::wish);
            }
        });
        Edge.of("4", "a wish that is taken back keeps its number, which is not given again)")
                .holds(() -> {
            Kit kit = Kit.of(1).v(0, 10099);
            for (int w = 0; w < 8; w++) {
                Kit.same("wish", kit.wish("a"), w);
                if (w < 7) {
                    kit.x.unwish(w);
                    kit.unread("taken back", INDEX, () -> kit.x.unwish(0));
                }
            }
            kit.x.solve(false);
            Kit.same("the last one keeps its number", kit.x.because(0), 107);
            kit.unread("a 9th", STATE, kit.x::wish);
            kit.x.unwish(7);
            kit.unread("also with none left", STATE, kit.x::wish);
        });
    }

    private static void emptyRoots() {
        Edge.of("4", "a quota (0 to 40000, at first 40000),").holds(() -> {
            Kit kit = Kit.of(1);
            for (int root = 0; root < 3; root++) {
                kit.x.root(root);
                Kit.same("at first", kit.x.quota(0), 40000);
                Kit.same("the least", kit.x.quota(40000), 0);
                Kit.same("the greatest", kit.x.quota(40000), 40000);
                kit.outside("quota", 0, 40000, ARGUMENT, kit.x::quota);
            }
            Kit full = Kit.of(12);
            for (int p = 0; p < 12; p++) {
                full.full(p, 10099, 0, 1000, 0);
            }
            full.x.quota(12000);
            for (int p = 0; p < 8; p++) {
                full.wish(p == 7 ? "h|i|j|k|l" : "" + (char) ('a' + p));
            }
            Kit.same("all that can be", full.install(), 12);
            Kit.same("all of it", full.x.share(), 1.0f);
        });
        Edge.of("4", "what is installed (a set, at first empty),").holds(() -> {
            Kit kit = Kit.of(1).full(0, 10099, 1, 1, 0);
            for (int root = 2; root >= 0; root--) {
                kit.x.root(root);
                Kit.same("installed", kit.installed(), "-1");
                Kit.same("size", kit.x.size(), 0);
                kit.wish("a");
                kit.install();
                Kit.same("installed", kit.installed(), "10099");
            }
        });
        Edge.of("4", "a history and a goal (a set, at first empty).").holds(() -> {
            Kit kit = Kit.of(1).v(0, 10099);
            for (int root = 2; root >= 0; root--) {
                kit.x.root(root);
                Kit.same("history", kit.x.count(5), 0);
                Kit.same("goal", kit.goal(), "-");
                Kit.same("lock", kit.x.lock(0), 0);
                kit.wish("a");
                kit.install();
                Kit.same("history", kit.x.count(5), 1);
                Kit.same("goal", kit.goal(), "10099");
            }
        });
    }

    private static void common() {
        Edge.of("4", "Packages, mirrors and locks are common to all roots.").holds(() -> {
            Kit kit = new Kit();
            kit.x.root(2);
            kit.x.pack();
            kit.v(0, 10099);
            kit.x.mirror();
            kit.wish("a");
            kit.x.solve(false);
            kit.x.lock(2);
            kit.x.root(1);
            Kit.same("packages, versions, mirrors", kit.row(3, kit.x::count), "1 1 1");
            Kit.same("but no wish", kit.x.count(3), 0);
            Kit.same("lock", kit.x.takeLock(2), 1);
            Kit.same("lock", kit.goal(), "10099");
            Kit.same("another mirror", kit.x.mirror(), 1);
        });
    }

    private static void fits() {
        Edge.of("4", "A set fits the root at hand if it is sound, each wish is met,").holds(() -> {
            Kit kit = Kit.of(8);
            for (int p = 0; p < 8; p++) {
                kit.v(p, 10099);
                kit.wish("" + (char) ('a' + p));
            }
            Kit.same("each one", kit.x.fitting(), 1);
            for (int w = 0; w < 8; w++) {
                kit.x.unwish(w);
                Kit.same("but those taken back", kit.x.fitting(), 2 << w);
            }
            kit.need(0, 10099, "b");
            Kit.same("and sound", kit.x.fitting(), 192);
        });
        Edge.of("4", "of each package with a hold it has what is installed of it (the version and "
                + "whether its option is on, or neither),").holds(() -> {
            Kit kit = Kit.of(2).v(0, 10099).v(1, 10099);
            kit.option(0, 10099, "a");
            kit.option(1, 10099, "b");
            Kit.same("of two, with options", kit.x.fitting(), 9);
            kit.x.hold(0, true);
            Kit.same("neither of a", kit.x.fitting(), 3);
            kit.x.hold(0, false);
            kit.wish("a");
            kit.install();
            kit.x.hold(0, true);
            kit.x.hold(1, true);
            Kit.same("a off, no b", kit.x.fitting(), 1);
            kit.wish("a#");
            Kit.same("not on", kit.x.fitting(), 0);
            kit.x.hold(0, false);
            kit.install();
            kit.x.hold(0, true);
            Kit.same("on", kit.x.fitting(), 1);
            kit.x.unwish(1);
            Kit.same("not off", kit.x.fitting(), 1);
            Kit.same("not off", kit.x.solve(false) + kit.goal(), "110099+ -");
        });
        Edge.of("4", "and of each package with a pin it has no version that does not meet the range of "
                + "the pin.").holds(() -> {
            Kit kit = Kit.of(2).v(0, 10005, 10099, 20099).v(1, 10099);
            Kit.same("without a pin", kit.x.fitting(), 8);
            kit.pin(0, "*");
            Kit.same("no trial", kit.x.fitting(), 6);
            kit.pin(0, "1.0!5");
            Kit.same("the trial or none", kit.x.fitting(), 4);
            kit.pin(0, "3.0");
            Kit.same("none", kit.x.fitting(), 2);
            kit.pin(1, "1.0");
            Kit.same("b may have its version", kit.x.fitting(), 2);
            kit.x.provide(1, 10099, 0, 20099);
            Kit.same("what it provides is not pinned", kit.x.fitting(), 2);
        });
    }

    // ---- Promises 15 to 20

    private static void root() {
        Edge.of("P15", "- `which`: 0 to 2", "Throws `IllegalArgumentException` if which is out of range")
                .holds(() -> {
            Kit kit = new Kit();
            for (int which = 0; which < 3; which++) {
                kit.x.root(which);
                kit.outside("root", 0, 2, ARGUMENT, kit.x::root);
                Kit.same("still at hand", kit.x.root(which), which);
            }
        });
        Edge.of("P15", "Returns the root that was at hand.").holds(() -> {
            Kit kit = new Kit();
            int[] roots = {0, 0, 2, 2, 1, 0, 1, 2, 0};
            for (int k = 1; k < roots.length; k++) {
                Kit.same("root", kit.x.root(roots[k]), roots[k - 1]);
            }
            Kit.same("also the same one is a change", kit.x.count(7), 8);
            kit.x.undo();
            Kit.same("undone", kit.x.root(1), 2);
        });
    }

    private static void wish() {
        Edge.of("P16", "Returns its number.").holds(() -> {
            Kit kit = Kit.of(1);
            for (int w = 0; w < 8; w++) {
                Kit.same("wish", kit.wish("a"), w);
            }
            kit.x.root(1);
            Kit.same("of another root", kit.wish("a"), 0);
        });
        Edge.of("P16", "Throws `IllegalStateException` if 8 wishes have come").holds(() -> {
            Kit kit = Kit.of(1);
            for (int w = 0; w < 7; w++) {
                kit.wish("a");
            }
            Kit.same("the last", kit.wish("a"), 7);
            kit.unread("a 9th", STATE, kit.x::wish);
            kit.x.undo();
            Kit.same("the last again", kit.wish("a"), 7);
            kit.x.unwish(3);
            kit.unread("a 9th, though one was taken back", STATE, kit.x::wish);
        });
        Edge.of("P16", "Throws `IllegalArgumentException` if the text has an error").holds(() -> {
            Kit kit = Kit.of(1);
            kit.misread("", 0, kit.x::wish);
            kit.misread("b", 0, kit.x::wish);
            kit.misread("a|a#", 3, kit.x::wish);
            Kit.same("none came", kit.wish("a"), 0);
        });
    }

    private static void unwish() {
        Edge.of("P17", "- `wish`: number of a wish that was not taken back",
                "Throws `IndexOutOfBoundsException` if there is no such wish, or it was taken back")
                .holds(() -> {
            Kit kit = Kit.of(1);
            for (int w = 0; w <= 8; w++) {
                kit.outside("unwish", 0, w - 1, INDEX, kit.x::unwish);
                if (w < 8) {
                    kit.wish("a");
                }
            }
            for (int w = 7; w >= 0; w--) {
                int wish = w;
                kit.x.unwish(w);
                kit.unread("taken back", INDEX, () -> kit.x.unwish(wish));
            }
            kit.x.root(1);
            kit.unread("of another root", INDEX, () -> kit.x.unwish(0));
        });
        Edge.of("P17", "Returns how many wishes are left.").holds(() -> {
            Kit kit = Kit.of(1);
            for (int w = 0; w < 8; w++) {
                kit.wish("a");
            }
            int[] order = {3, 0, 7, 1, 6, 2, 5, 4};
            for (int k = 0; k < 8; k++) {
                Kit.same("left", kit.x.unwish(order[k]), 7 - k);
            }
        });
    }

    private static void hold() {
        Edge.of("P18", "- `pack`: number of a package",
                "Throws `IndexOutOfBoundsException` if there is no such package").holds(() -> {
            Kit kit = new Kit();
            kit.noPackage("hold", pack -> kit.x.hold(pack, true));
            for (int p = 0; p < 12; p++) {
                kit.x.pack();
                Kit.same("hold", kit.x.hold(p, true), p + 1);
                kit.noPackage("hold", pack -> kit.x.hold(pack, true));
                kit.noPackage("no hold", pack -> kit.x.hold(pack, false));
            }
        });
        Edge.of("P18", "- `isHeld`: whether it is held from now on").holds(() -> {
            Kit kit = Kit.of(1).v(0, 10099);
            kit.x.hold(0, true);
            Kit.same("held", kit.x.must(0, 10099), -1);
            kit.x.hold(0, false);
            Kit.same("not held", kit.x.must(0, 10099), 0);
        });
        Edge.of("P18", "Returns how many packages are held afterwards.").holds(() -> {
            Kit kit = Kit.of(12);
            Kit.same("none", kit.x.hold(0, false), 0);
            for (int p = 11; p >= 0; p--) {
                Kit.same("held", kit.x.hold(p, true), 12 - p);
                Kit.same("held again", kit.x.hold(p, true), 12 - p);
            }
            for (int p = 0; p < 12; p++) {
                Kit.same("left", kit.x.hold(p, false), 11 - p);
                Kit.same("left again", kit.x.hold(p, false), 11 - p);
            }
        });
    }

    private static void pin() {
        Edge.of("P19", "Pins a package to the range on the tape, in place of a pin that it has;")
                .holds(() -> {
            Kit kit = Kit.of(1).v(0, 10099, 20099);
            Kit.same("1.0", kit.pin(0, "1.0"), 1);
            Kit.same("barred", kit.x.must(0, 20099), -1);
            Kit.same("2.0", kit.pin(0, "2.0"), 1);
            Kit.same("not barred", kit.x.must(0, 20099), 0);
            Kit.same("barred", kit.x.must(0, 10099), -1);
        });
        Edge.of("P19", "an empty tape (no bytes) ends its pin.").holds(() -> {
            Kit kit = Kit.of(2).v(0, 10099);
            int undoable = kit.x.count(7);
            Kit.same("no pin", kit.x.pin(0), 0);
            Kit.same("is a change", kit.x.count(7), undoable + 1);
            kit.pin(0, "2.0");
            kit.misread(" ", 1, () -> kit.x.pin(0));
            kit.misread("\n\n", 2, () -> kit.x.pin(0));
            Kit.same("still barred", kit.x.must(0, 10099), -1);
            kit.x.append(0, 0, 0, 0, 0);
            Kit.same("no bytes", kit.x.pin(0), 0);
            Kit.same("no error", kit.x.errorPosition(), -1);
            Kit.same("not barred", kit.x.must(0, 10099), 0);
            kit.pin(1, "1.0");
            Kit.same("another one", kit.pin(0, ""), 1);
        });
        Edge.of("P19", "Returns how many packages are pinned afterwards.").holds(() -> {
            Kit kit = Kit.of(12);
            for (int p = 11; p >= 0; p--) {
                Kit.same("pinned", kit.pin(p, "*"), 12 - p);
                Kit.same("pinned again", kit.pin(p, "1.0"), 12 - p);
            }
            kit.x.root(1);
            Kit.same("in another root", kit.pin(3, "*"), 1);
            kit.x.root(0);
            for (int p = 0; p < 12; p++) {
                Kit.same("left", kit.pin(p, ""), 11 - p);
                Kit.same("left again", kit.pin(p, ""), 11 - p);
            }
        });
    }

    private static void pinRefused() {
        Edge.of("P19", "- `pack`: number of a package",
                "Throws `IndexOutOfBoundsException` if there is no such package").holds(() -> {
            Kit kit = new Kit();
            kit.noPackage("pin", kit.x::pin);
            for (int p = 0; p < 12; p++) {
                kit.x.pack();
                Kit.same("pin", kit.pin(p, "*"), p + 1);
                kit.noPackage("pin", kit.x::pin);
            }
            kit.x.clearTape();
            kit.index("also with an empty tape", () -> kit.x.pin(12));
        });
        Edge.of("P19", "Throws `IllegalArgumentException` if the text has an error, or is no range")
                .holds(() -> {
            Kit kit = Kit.of(1).v(0, 10099, 20099);
            kit.pin(0, "1.0");
            kit.misread("1.", 2, () -> kit.x.pin(0));
            kit.misread("a", 0, () -> kit.x.pin(0));
            kit.misread("2.0|2.0", 3, () -> kit.x.pin(0));
            kit.misread("2.0#", 3, () -> kit.x.pin(0));
            Kit.same("the pin stays", kit.x.must(0, 20099), -1);
        });
    }

    private static void quota() {
        Edge.of("P20", "- `size`: 0 to 40000", "Throws `IllegalArgumentException` if size is out of range")
                .holds(() -> {
            Kit kit = new Kit();
            kit.outside("quota", 0, 40000, ARGUMENT, kit.x::quota);
            kit.x.quota(0);
            kit.outside("quota", 0, 40000, ARGUMENT, kit.x::quota);
            Kit.same("as it was", kit.x.quota(40000), 0);
        });
        Edge.of("P20", "Returns the quota before.").holds(() -> {
            Kit kit = new Kit();
            int[] sizes = {40000, 0, 1, 39999, 40000, 40000, 0, 0, 7};
            for (int k = 1; k < sizes.length; k++) {
                Kit.same("quota", kit.x.quota(sizes[k]), sizes[k - 1]);
            }
            kit.x.root(1);
            Kit.same("of another root", kit.x.quota(5), 40000);
        });
    }
}
